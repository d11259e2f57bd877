/-! ===== draw: the lots of one telling ===== -/
def dR2 (I : zM2) (v : Nat) : Int32 := nI (lotX (lv 0 v) (I 164 19))
def dR5 (I : zM2) (v : Nat) : Int32 := nI (lotX (lv 1 v) (I 164 18))
def dM1 (v : Nat) : Int32 := nI (lotX (lv 2 v) 240)
def dM2 (v : Nat) : Int32 := zmin (nI (lotX (lv 2 v) 240) + nI (lotX (lv 3 v) 10)) 239
def dOw (I : zM2) (v : Nat) : Int32 := nI (lotX (lv 4 v) (2 * I 164 25 + 1)) - I 164 25
def dOs (I : zM2) (v : Nat) : Int32 := nI (lotX (lv 5 v) (2 * I 164 26 + 1)) - I 164 26
def dP4 (v : Nat) : Int32 := nI (lotX (lv 7 v) 2) * 10 + (nI (lotX (lv 6 v) 9) + 1)
def drow (I : zM2) (v : Nat) : rT := rowOf I (dR2 I v) (dR5 I v) (dM1 v) (dM2 v) (dOw I v) (dOs I v) (dP4 v)
def drK (I : zM2) (v : Nat) : Bool := shOf I (dR2 I v) (dR5 I v) (dM1 v) (dM2 v)
theorem lv_s (i v : Nat) : lotV (lv i v) = lv (i + 1) v := rfl
theorem lots_lt {v : Nat} (h : v < 2147483648) : ∀ i, lv i v < 2147483648 := by
  intro i
  cases i with
  | zero => exact h
  | succ i => exact lotV_lt _
theorem lot_b {w : Nat} {p : Int32} (hp : 1 ≤ p.toInt) : bR 0 (p.toInt - 1) (nI (lotX w p)) = true := by
  have h1 := lotX_lt (v := w) hp
  have hr := ti_rng p
  rw [bR_t, nI_toInt (by omega)]
  omega
theorem dM_ok (v : Nat) : bR 0 239 (dM1 v) = true ∧ bR 0 239 (dM2 v) = true ∧ (dM1 v).toInt ≤ (dM2 v).toInt := by
  have h1 := lotX_lt (v := lv 2 v) (p := 240) (by decide)
  have h2 := lotX_lt (v := lv 3 v) (p := 10) (by decide)
  rw [show (240 : Int32).toInt.toNat = 240 from rfl] at h1
  rw [show (10 : Int32).toInt.toNat = 10 from rfl] at h2
  unfold dM1 dM2
  generalize lotX (lv 2 v) 240 = A at *
  generalize lotX (lv 3 v) 10 = B at *
  have e1 : (nI A + nI B).toInt = A + B := by rw [ti_add (by rw [nI_toInt (by omega), nI_toInt (by omega)]; omega) (by rw [nI_toInt (by omega), nI_toInt (by omega)]; omega), nI_toInt (by omega), nI_toInt (by omega)]
  have e2 : (zmin (nI A + nI B) 239).toInt = min ((A : Int) + B) 239 := by rw [zmin_i, e1]; rfl
  rw [bR_t, bR_t, e2, nI_toInt (by omega)]
  omega
theorem dP4_ok (v : Nat) : bLights (dP4 v) = true := by
  have h1 := lotX_lt (v := lv 7 v) (p := 2) (by decide)
  have h2 := lotX_lt (v := lv 6 v) (p := 9) (by decide)
  rw [show (2 : Int32).toInt.toNat = 2 from rfl] at h1
  rw [show (9 : Int32).toInt.toNat = 9 from rfl] at h2
  unfold dP4
  generalize lotX (lv 7 v) 2 = A at *
  generalize lotX (lv 6 v) 9 = B at *
  have e10 : (10 : Int32).toInt = 10 := rfl
  have e1 : (1 : Int32).toInt = 1 := rfl
  have a1 : (nI A * 10).toInt = A * 10 := by rw [ti_mul (by rw [nI_toInt (by omega), e10]; omega) (by rw [nI_toInt (by omega), e10]; omega), nI_toInt (by omega), e10]
  have a2 : (nI B + 1).toInt = B + 1 := by rw [ti_add (by rw [nI_toInt (by omega), e1]; omega) (by rw [nI_toInt (by omega), e1]; omega), nI_toInt (by omega), e1]
  have a3 : (nI A * 10 + (nI B + 1)).toInt = A * 10 + (B + 1) := by rw [ti_add (by rw [a1, a2]; omega) (by rw [a1, a2]; omega), a1, a2]
  rw [bLi_m, bR_t, ti_eq, a3, e10]
  omega
def lS18 : Nat → Nat → Prop := fun o j => o = 64 ∧ j = 18
def drN : Nat → Nat → Prop := fun o j => lkS o j ∨ lS18 o j
def drD (k : Nat) : Nat → Nat → Prop := fun o j => drC k o j ∨ lS18 o j
theorem two1 {x : Int32} (h0 : 0 ≤ x.toInt) (h1 : x.toInt ≤ 200) : 1 ≤ (2 * x + 1).toInt := by
  have e2 : (2 : Int32).toInt = 2 := rfl
  have e1 : (1 : Int32).toInt = 1 := rfl
  have a : (2 * x).toInt = 2 * x.toInt := by rw [ti_mul (by rw [e2]; omega) (by rw [e2]; omega), e2]
  rw [ti_add (by rw [a, e1]; omega) (by rw [a, e1]; omega), a, e1]
  omega
section D1
variable {l : Launch} {g : zG} {d : Nat} {s0 s : zS} {k0 k v : Nat}
theorem c_lotD (hR : zRok s) (hv : s.1 64 18 = nI v) (hv2 : v < 2147483648) {p : Int32} (hp : 1 ≤ p.toInt) {K : Int32 → zS → Prop} (h : ∀ s', zE lS18 s s' → s'.1 64 18 = nI (lotV v) → K (nI (lotX v p)) s') : zc l g d M_X7_lotBelow [.ref 64, .int p] s (zKi K) := c_lot hR hv hv2 hp h
theorem c_draw1 (hB : dB s0) (hE : zD (drS k0) s0 s) (hT : 1 ≤ (s0.1 164 19).toInt) (hS : 1 ≤ (s0.1 164 18).toInt) (hv : s.1 64 18 = nI v) (hv2 : v < 2147483648) (h7 : s.1 64 7 = nI k) (hk6 : k ≤ 60) {K : Bool → zS → Prop}
    (hK1 : drK s0.1 v = true → k < 60 → ∀ s', zE (drD k) s s' → s'.1 64 18 = nI (lv 8 v) → s'.1 64 7 = nI (k + 1) → (∀ j, j < 9 → s'.1 (104 + k) j = rv (drow s0.1 v) j) → s'.1 (104 + k) 10 = 0 → s'.1 (104 + k) 13 = 0 → K true s')
    (hK0 : ¬ (drK s0.1 v = true ∧ k < 60) → ∀ s', zE drN s s' → s'.1 64 18 = nI (lv 8 v) → s'.1 64 7 = nI k → K false s') :
    zc l g (d + 5) M_X7_drawTelling [.ref 64] s (zKz K) := by
  obtain ⟨⟨hR, hH, hO, hTT, hSS⟩, e19, e18, e25, e26⟩ := dB_st hB hE
  have x5 : s.1 64 5 = s0.1 164 19 := by rw [hTT.2.1, e19]
  have x3 : s.1 64 3 = s0.1 164 18 := by rw [hSS.2.1, e18]
  have x8 : s.1 64 8 = s0.1 164 25 := by rw [hO.1, e25]
  have x9 : s.1 64 9 = s0.1 164 26 := by rw [hO.2.1, e26]
  have o25 := hB.2.2.1.2.2.1
  have o26 := hB.2.2.1.2.2.2
  have hlv := lots_lt hv2
  have hp5 : 1 ≤ (2 * s0.1 164 25 + 1).toInt := two1 o25.1 (by have := o25.2; omega)
  have hp6 : 1 ≤ (2 * s0.1 164 26 + 1).toInt := two1 o26.1 o26.2
  have nT12 : (s0.1 164 19).toInt ≤ 12 := hB.2.2.2.1.1.2
  have b2 := lot_b (w := lv 0 v) hT
  have vp2 : vp_in (nI (lotX (lv 0 v) (s0.1 164 19))) 12 := vin_i (bR_t.mp b2).1 (by have := (bR_t.mp b2).2; omega)
  refine t_X7_drawTelling (d := d + 4) hR ?_
  rw [x5]
  refine c_lotD (v := lv 0 v) hR hv hv2 hT (fun s1 hE1 v1 => ⟨zE_R hE1, vp2, ?_⟩)
  rw [lv_s] at v1
  rw [hE1.2 64 3 (by unfold lS18; omega), x3]
  refine c_lotD (v := lv 1 v) (zE_K hE1 hR) v1 (hlv 1) hS (fun s2 hE2 v2 => ⟨zE_R hE2, ?_⟩)
  rw [lv_s] at v2
  have hE02 := zE_t hE1 hE2
  refine c_lotD (v := lv 2 v) (p := 240) (zE_K hE02 hR) v2 (hlv 2) (by decide) (fun s3 hE3 v3 => ⟨zE_R hE3, ?_⟩)
  rw [lv_s] at v3
  have hE03 := zE_t hE02 hE3
  refine c_lotD (v := lv 3 v) (p := 10) (zE_K hE03 hR) v3 (hlv 3) (by decide) (fun s4 hE4 v4 => ⟨zE_R hE4, ?_⟩)
  rw [lv_s] at v4
  have hE04 := zE_t hE03 hE4
  intro v10 e10
  rw [hE04.2 64 8 (by unfold lS18; omega), x8]
  refine c_lotD (v := lv 4 v) (zE_K hE04 hR) v4 (hlv 4) hp5 (fun s5 hE5 v5 => ⟨zE_R hE5, ?_⟩)
  rw [lv_s] at v5
  have hE05 := zE_t hE04 hE5
  rw [hE05.2 64 9 (by unfold lS18; omega), x9, hE05.2 64 8 (by unfold lS18; omega), x8]
  refine c_lotD (v := lv 5 v) (zE_K hE05 hR) v5 (hlv 5) hp6 (fun s6 hE6 v6 => ⟨zE_R hE6, ?_⟩)
  rw [lv_s] at v6
  have hE06 := zE_t hE05 hE6
  rw [hE06.2 64 9 (by unfold lS18; omega), x9]
  refine c_lotD (v := lv 6 v) (p := 9) (zE_K hE06 hR) v6 (hlv 6) (by decide) (fun s7 hE7 v7 => ⟨zE_R hE7, ?_⟩)
  rw [lv_s] at v7
  have hE07 := zE_t hE06 hE7
  refine c_lotD (v := lv 7 v) (p := 2) (zE_K hE07 hR) v7 (hlv 7) (by decide) (fun s8 hE8 v8 => ⟨zE_R hE8, ?_⟩)
  rw [lv_s] at v8
  have hE08 := zE_t hE07 hE8
  have hS8 : zD (drS k0) s0 s8 := zD_t hE (zD_E hE08 (fun o j w => by unfold lS18 at w; unfold drS; omega))
  obtain ⟨m1, m2, m3⟩ := dM_ok v
  have e7 : s8.1 64 7 = nI k := by rw [hE08.2 64 7 (by unfold lS18; omega)]; exact h7
  have eM2 : v10 = dM2 v := e10
  rw [eM2]
  refine c_dtail (d := d) (k := k) (r2 := dR2 s0.1 v) (r5 := dR5 s0.1 v) (m1 := dM1 v) (m2 := dM2 v) (ow := dOw s0.1 v) (os := dOs s0.1 v) (p4 := dP4 v) hB hS8 b2 (lot_b hS) m1 m2 m3 (dP4_ok v) e7 hk6 (fun w1 w2 s9 hE9 u7 ur u10 u13 => ?_) (fun w1 s9 hE9 => ?_)
  · refine hK1 w1 w2 s9 (zE_t (zE_m hE08 (fun o j u => Or.inr u)) (zE_m hE9 (fun o j u => Or.inl u))) ?_ u7 ur u10 u13
    rw [hE9.2 64 18 (by unfold drC clS lkS; omega)]; exact v8
  · refine hK0 w1 s9 (zE_t (zE_m hE08 (fun o j u => Or.inr u)) (zE_m hE9 (fun o j u => Or.inl u))) ?_ ?_
    · rw [hE9.2 64 18 (by unfold lkS; omega)]; exact v8
    · rw [hE9.2 64 7 (by unfold lkS; omega)]; exact e7
end D1
