/-! ===== draw: one telling ===== -/
def zD (S : Nat → Nat → Prop) (s s' : zS) : Prop := s'.2.2 = s.2.2 ∧ ∀ o k, ¬ S o k → s'.1 o k = s.1 o k
theorem zD_r {S : Nat → Nat → Prop} {s : zS} : zD S s s := ⟨rfl, fun _ _ _ => rfl⟩
theorem zD_t {S : Nat → Nat → Prop} {a b c : zS} (h1 : zD S a b) (h2 : zD S b c) : zD S a c := ⟨h2.1.trans h1.1, fun o k h => (h2.2 o k h).trans (h1.2 o k h)⟩
theorem zD_E {S T : Nat → Nat → Prop} {a b : zS} (h : zE S a b) (hm : ∀ o k, S o k → T o k) : zD T a b := ⟨by rw [h.1], fun o k q => h.2 o k (fun w => q (hm o k w))⟩
theorem zD_K {S : Nat → Nat → Prop} {a b : zS} (h : zD S a b) (hR : zRok a) : zRok b := zRok_of (by rw [h.1]) hR
def drS (k0 : Nat) : Nat → Nat → Prop := fun o j => lkS o j ∨ (o = 64 ∧ (j = 18 ∨ j = 7)) ∨ (o = 164 ∧ j = 24) ∨ (104 + k0 ≤ o ∧ o < 164 ∧ ¬ j = 9 ∧ ¬ j = 11 ∧ ¬ j = 12) ∨ (183 + k0 ≤ o ∧ o < 243)
def dB (s0 : zS) : Prop := zRok s0 ∧ RelH s0.1 ∧ RelO s0.1 ∧ RelT s0.1 ∧ RelS s0.1
theorem dB_st {s0 s : zS} {k0 : Nat} (hB : dB s0) (hE : zD (drS k0) s0 s) : dB s ∧ s.1 164 19 = s0.1 164 19 ∧ s.1 164 18 = s0.1 164 18 ∧ s.1 164 25 = s0.1 164 25 ∧ s.1 164 26 = s0.1 164 26 := by
  obtain ⟨a, b, c, e, f⟩ := hB
  have q : ∀ o j, ¬ drS k0 o j → s.1 o j = s0.1 o j := hE.2
  refine ⟨⟨zD_K hE a, RelH_c (fun o x y k => q o k (by unfold drS lkS; omega)) (q _ _ (by unfold drS lkS; omega)) (q _ _ (by unfold drS lkS; omega)) (q _ _ (by unfold drS lkS; omega)) (fun k => q _ _ (by unfold drS lkS; omega)) (fun k => q _ _ (by unfold drS lkS; omega)) b,
    RelO_c (q _ _ (by unfold drS lkS; omega)) (q _ _ (by unfold drS lkS; omega)) (q _ _ (by unfold drS lkS; omega)) (q _ _ (by unfold drS lkS; omega)) c,
    RelT_c (fun o x y k => q o k (by unfold drS lkS; omega)) (fun o x y k => q o k (by unfold drS lkS; omega)) (q _ _ (by unfold drS lkS; omega)) (q _ _ (by unfold drS lkS; omega)) e,
    RelS_c (q _ _ (by unfold drS lkS; omega)) (q _ _ (by unfold drS lkS; omega)) (fun k => q _ _ (by unfold drS lkS; omega)) (fun k => q _ _ (by unfold drS lkS; omega)) (fun k => q _ _ (by unfold drS lkS; omega)) f⟩,
    q _ _ (by unfold drS lkS; omega), q _ _ (by unfold drS lkS; omega), q _ _ (by unfold drS lkS; omega), q _ _ (by unfold drS lkS; omega)⟩
theorem dB_fn {s0 s : zS} {k0 : Nat} (hE : zD (drS k0) s0 s) (t i : Nat) (m : Int32) : shF s.1 t i m = shF s0.1 t i m ∧ wyF s.1 t i m = wyF s0.1 t i m ∧ slF s.1 t i m = slF s0.1 t i m := by
  have hs : sameT s0.1 s.1 t := ⟨fun o a b k => hE.2 o k (by unfold drS lkS; omega), hE.2 164 17 (by unfold drS lkS; omega), fun o a b => hE.2 o t (by unfold drS lkS; omega)⟩
  have h3 : s.1 170 i = s0.1 170 i := hE.2 _ _ (by unfold drS lkS; omega)
  have h4 : s.1 171 i = s0.1 171 i := hE.2 _ _ (by unfold drS lkS; omega)
  exact ⟨shF_c hs h3 h4 m, wyF_c hs h3 h4 m, slF_c hs h3 h4 m⟩
/-- a direction told: way and slope with their errors -/
def drV (I : zM2) (t i : Nat) (m ow os : Int32) : Int32 := zfm (wyF I t i m + ow) 256 * 1000 + zmax 0 (zmin (slF I t i m + os) 999)
def rowOf (I : zM2) (r2 r5 m1 m2 ow os p4 : Int32) : rT := (r5, m1 * 1000 + m2, drV I r2.toNatClampNeg r5.toNatClampNeg m1 ow os, drV I r2.toNatClampNeg r5.toNatClampNeg m2 ow os, p4)
def shOf (I : zM2) (r2 r5 m1 m2 : Int32) : Bool := shF I r2.toNatClampNeg r5.toNatClampNeg m1 && shF I r2.toNatClampNeg r5.toNatClampNeg m2
theorem drV_ok (I : zM2) (t i : Nat) (m ow os : Int32) : bR 0 255999 (drV I t i m ow os) = true := by
  have e256 : (256 : Int32).toInt = 256 := rfl
  have e1000 : (1000 : Int32).toInt = 1000 := rfl
  have e999 : (999 : Int32).toInt = 999 := rfl
  have h1 := zfm_i (x := wyF I t i m + ow) (y := 256) (by decide)
  have h2 := zmax_i 0 (zmin (slF I t i m + os) 999)
  have h3 := zmin_i (slF I t i m + os) 999
  rw [h3, til.1, e999] at h2
  rw [e256] at h1
  unfold drV
  generalize zfm (wyF I t i m + ow) 256 = A at *
  generalize zmax 0 (zmin (slF I t i m + os) 999) = B at *
  have hA : 0 ≤ A.toInt ∧ A.toInt ≤ 255 := by rw [h1]; omega
  have hBr : 0 ≤ B.toInt ∧ B.toInt ≤ 999 := by rw [h2]; omega
  have h5 : (A * 1000).toInt = A.toInt * 1000 := by rw [ti_mul (by rw [e1000]; omega) (by rw [e1000]; omega), e1000]
  rw [bR_t, ti_add (by rw [h5]; omega) (by rw [h5]; omega), h5]
  omega
theorem span_ok {m1 m2 : Int32} (h1 : bR 0 239 m1 = true) (h2 : bR 0 239 m2 = true) (h : m1.toInt ≤ m2.toInt) : bSpan (m1 * 1000 + m2) = true := by
  have b1 := bR_t.mp h1
  have b2 := bR_t.mp h2
  have e1000 : (1000 : Int32).toInt = 1000 := rfl
  have h5 : (m1 * 1000).toInt = m1.toInt * 1000 := by rw [ti_mul (by rw [e1000]; omega) (by rw [e1000]; omega), e1000]
  have h6 : (m1 * 1000 + m2).toInt = m1.toInt * 1000 + m2.toInt := by rw [ti_add (by rw [h5]; omega) (by rw [h5]; omega), h5]
  have h7 : ((m1 * 1000 + m2) / 1000).toInt = m1.toInt := by rw [ti_divp (by rw [h6]; omega), h6, e1000]; omega
  have h8 : ((m1 * 1000 + m2) % 1000).toInt = m2.toInt := by rw [ti_modp (by rw [h6]; omega), h6, e1000]; omega
  unfold bSpan
  rw [Bool.and_eq_true, Bool.and_eq_true, Bool.and_eq_true, decide_eq_true_eq, bR_t, bR_t, bR_t, h6, h7, h8]
  omega
theorem row_ok {I : zM2} {ns : Int} {r2 r5 m1 m2 ow os p4 : Int32} (h5 : bR 0 (ns - 1) r5 = true) (h1 : bR 0 239 m1 = true) (h2 : bR 0 239 m2 = true) (h : m1.toInt ≤ m2.toInt) (h4 : bLights p4 = true) : tellV ns (rowOf I r2 r5 m1 m2 ow os p4) :=
  ⟨h5, span_ok h1 h2 h, drV_ok _ _ _ _ _ _, drV_ok _ _ _ _ _ _, h4⟩
/-- cells that one drawn telling writes in the class -/
def drC (k : Nat) : Nat → Nat → Prop := fun o j => lkS o j ∨ clS k o j
def drM (k : Nat) : Nat → Nat → Prop := fun o j => lkS o j ∨ mlT k o j
section DR
variable {l : Launch} {g : zG} {d : Nat} {s0 s : zS} {k0 k : Nat} {r2 r5 m1 m2 ow os p4 : Int32}
theorem c_sighted (hR : zRok s) {w sl p0 p1 : Int32} (h1 : s.1 68 1 = w) (h2 : s.1 68 2 = sl) {K : Int32 → zS → Prop} (h : K (zfm (w + p0) 256 * 1000 + zmax 0 (zmin (sl + p1) 999)) s) : zc l g (d + 2) M_X7_sightedOff [.ref 64, .int p0, .int p1] s (zKi K) := by
  refine t_X7_sightedOff (d := d + 1) hR ?_
  rw [h1, h2]
  exact t_X7_within (d := d) hR ⟨rfl, h⟩
theorem s68_C {a b : zS} (h : zE s68 a b) : zE (drC k) a b := zE_m h (fun o j w => Or.inl (Or.inl w))
theorem drC_S (hk : k0 ≤ k) (hk2 : k < 60) {a b : zS} (h : zE (drC k) a b) : zD (drS k0) a b := zD_E h (fun o j w => by unfold drC clS lkS at w; unfold drS lkS; omega)
theorem s68_S {a b : zS} (h : zE s68 a b) : zD (drS k0) a b := zD_E h (fun o j w => Or.inl (Or.inl w))
theorem c_dtail (hB : dB s0) (hE : zD (drS k0) s0 s) (h2t : bR 0 ((s0.1 164 19).toInt - 1) r2 = true) (h5s : bR 0 ((s0.1 164 18).toInt - 1) r5 = true) (h1m : bR 0 239 m1 = true) (h2m : bR 0 239 m2 = true) (hle : m1.toInt ≤ m2.toInt) (h4 : bLights p4 = true) (h7 : s.1 64 7 = nI k) (hk6 : k ≤ 60) {K : Bool → zS → Prop}
    (hK1 : shOf s0.1 r2 r5 m1 m2 = true → k < 60 → ∀ s', zE (drC k) s s' → s'.1 64 7 = nI (k + 1) → (∀ j, j < 9 → s'.1 (104 + k) j = rv (rowOf s0.1 r2 r5 m1 m2 ow os p4) j) → s'.1 (104 + k) 10 = 0 → s'.1 (104 + k) 13 = 0 → K true s')
    (hK0 : ¬ (shOf s0.1 r2 r5 m1 m2 = true ∧ k < 60) → ∀ s', zE lkS s s' → K false s') :
    vp_in r5 20 ∧ (zc l g (d + 4) M_X4_shows [.ref 68, .ref (92 + r2.toNatClampNeg), .int (s.1 69 r5.toNatClampNeg), .int m1] s (zKz (fun b21 s20 => s20.2.2.1 = s.2.2.1 ∧ (if b21 = true then (zc l g (d + 4) M_X7_sightedOff [.ref 64, .int ow, .int os] s20 (zKi (fun r23 s22 => s22.2.2.1 = s20.2.2.1 ∧ (vp_in r5 20 ∧ (zc l g (d + 4) M_X4_shows [.ref 68, .ref (92 + r2.toNatClampNeg), .int (s22.1 69 r5.toNatClampNeg), .int m2] s22 (zKz (fun b26 s25 => s25.2.2.1 = s22.2.2.1 ∧ (if b26 = true then (zc l g (d + 4) M_X7_sightedOff [.ref 64, .int ow, .int os] s25 (zKi (fun r28 s27 => s27.2.2.1 = s25.2.2.1 ∧ (zc l g (d + 4) M_X7_tell [.ref 64, .int r5, .int ((m1 * 1000) + m2), .int r23, .int r28, .int p4] s27 (zKi (fun r30 s29 => s29.2.2.1 = s27.2.2.1 ∧ (if r30 = (-1) then K false s29 else K true s29))))))) else K false s25)))))))) else K false s20)))) := by
  have hT := (dB_st hB hE).1
  obtain ⟨⟨hR, hH, hO, hTT, hSS⟩, e19, e18, -, -⟩ := dB_st hB hE
  have bt := bR_t.mp h2t
  have bs := bR_t.mp h5s
  have n12 := hTT.1
  have n20 := hSS.1
  unfold RN at n12 n20
  rw [e19] at n12
  rw [e18] at n20
  have tt := ti_tn bt.1
  have ti := ti_tn bs.1
  have t12 : r2.toNatClampNeg < nT s.1 := by unfold nT; rw [e19]; have := ti_tn n12.1; omega
  have i20 : r5.toNatClampNeg < nS s.1 := by unfold nS; rw [e18]; have := ti_tn n20.1; omega
  have hv : vp_in r5 20 := vin_i bs.1 (by omega)
  have ho := hTT.2.2.1 _ t12
  obtain ⟨-, -, -, -, w1, w2, -⟩ := RelS_v hSS i20
  refine ⟨hv, c_shows (d := d) hR hH (by omega) ho h1m w1 w2 (fun s1 hE1 h1 => ⟨zE_R hE1, ?_⟩)⟩
  obtain ⟨f1, f2, f3⟩ := dB_fn hE r2.toNatClampNeg r5.toNatClampNeg m1
  rw [f1] at h1 ⊢
  rw [f2, f3] at h1
  by_cases c1 : shF s0.1 r2.toNatClampNeg r5.toNatClampNeg m1 = true
  rotate_left
  · rw [if_neg c1]
    exact hK0 (fun w => c1 (by have := w.1; unfold shOf at this; rw [Bool.and_eq_true] at this; exact this.1)) s1 (lk68 hE1)
  rw [if_pos c1]
  obtain ⟨g1, g2⟩ := h1 c1
  have hE01 := zD_t hE (s68_S hE1)
  refine c_sighted (d := d + 2) (zE_K hE1 hR) g1 g2 ⟨rfl, hv, ?_⟩
  obtain ⟨⟨hR1, hH1, hO1, hTT1, hSS1⟩, e19', e18', -, -⟩ := dB_st hB hE01
  have t12' : r2.toNatClampNeg < nT s1.1 := by unfold nT at t12 ⊢; rw [e19']; rw [e19] at t12; exact t12
  have i20' : r5.toNatClampNeg < nS s1.1 := by unfold nS at i20 ⊢; rw [e18']; rw [e18] at i20; exact i20
  obtain ⟨-, -, -, -, w1', w2', -⟩ := RelS_v hSS1 i20'
  refine c_shows (d := d) hR1 hH1 (by omega) (hTT1.2.2.1 _ t12') h2m w1' w2' (fun s2 hE2 h2 => ⟨zE_R hE2, ?_⟩)
  obtain ⟨f1', f2', f3'⟩ := dB_fn hE01 r2.toNatClampNeg r5.toNatClampNeg m2
  rw [f1'] at h2 ⊢
  rw [f2', f3'] at h2
  have hE12 := zE_t (lk68 hE1) (lk68 hE2)
  by_cases c2 : shF s0.1 r2.toNatClampNeg r5.toNatClampNeg m2 = true
  rotate_left
  · rw [if_neg c2]
    exact hK0 (fun w => c2 (by have := w.1; unfold shOf at this; rw [Bool.and_eq_true] at this; exact this.2)) s2 hE12
  rw [if_pos c2]
  obtain ⟨g1', g2'⟩ := h2 c2
  have hE02 := zD_t hE01 (s68_S hE2)
  have hR2 := zE_K hE2 hR1
  refine c_sighted (d := d + 2) hR2 g1' g2' ⟨rfl, ?_⟩
  have e7 : s2.1 64 7 = nI k := by rw [hE12.2 64 7 (by unfold lkS; omega)]; exact h7
  obtain ⟨⟨-, -, -, -, hSS2⟩, -, e18'', -, -⟩ := dB_st hB hE02
  have e3 : s2.1 64 3 = s0.1 164 18 := by rw [hSS2.2.1, e18'']
  have hsh : shOf s0.1 r2 r5 m1 m2 = true := by unfold shOf; rw [c1, c2]; rfl
  have hval : tellV (s2.1 64 3).toInt (rowOf s0.1 r2 r5 m1 m2 ow os p4) := by rw [e3]; exact row_ok h5s h1m h2m hle h4
  refine c_tellD (d := d + 2) (r := rowOf s0.1 r2 r5 m1 m2 ow os p4) hR2 (by rw [e3]; exact n20.1) hval e7 (fun w => ⟨rfl, ?_⟩) (fun w s3 hE3 v7 vr v10 v13 => ⟨zE_R hE3, ?_⟩) hk6
  · rw [if_pos rfl]
    exact hK0 (fun u => w u.2) s2 hE12
  · rw [if_neg (by rw [ti_eq, nI_toInt (by omega), show (-1 : Int32).toInt = -1 from rfl]; omega)]
    exact hK1 hsh w s3 (zE_t (zE_m hE12 (fun o j u => Or.inl u)) (zE_m hE3 (fun o j u => Or.inr u))) v7 vr v10 v13
end DR
