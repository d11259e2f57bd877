/-! ===== draw: one telling, the reference ===== -/
section DM
variable {l : Launch} {g : zG} {d : Nat} {s0 s : zS} {k0 k : Nat} {r2 r5 m1 m2 ow os p4 : Int32}
theorem drM_S (hk : k0 ≤ k) (hk2 : k < 60) {a b : zS} (h : zE (drM k) a b) : zD (drS k0) a b := zD_E h (fun o j w => by unfold drM mlT lkS at w; unfold drS lkS; omega)
theorem at_S {a b : zS} (h : zE atS a b) : zD (drS k0) a b := zD_E h (fun o j w => Or.inl (Or.inr w))
theorem m_view (hB : dB s0) (hE : zD (drS k0) s0 s) (h2t : bR 0 ((s0.1 164 19).toInt - 1) r2 = true) (h5s : bR 0 ((s0.1 164 18).toInt - 1) r5 = true) : zRok s ∧ RN s.1 164 17 8 ∧ vp_in r2 12 ∧ vp_in r5 20 ∧ (s.1 172 r2.toNatClampNeg = 3 → ¬ s.1 180 r2.toNatClampNeg = 0) := by
  obtain ⟨⟨hR, hH, hO, hTT, hSS⟩, e19, e18, -, -⟩ := dB_st hB hE
  have bt := bR_t.mp h2t
  have bs := bR_t.mp h5s
  have n12 := hTT.1
  have n20 := hSS.1
  unfold RN at n12 n20
  rw [e19] at n12
  rw [e18] at n20
  have tt := ti_tn bt.1
  have t12 : r2.toNatClampNeg < nT s.1 := by unfold nT; rw [e19]; have := ti_tn n12.1; omega
  exact ⟨hR, hH.1, vin_i bt.1 (by omega), vin_i bs.1 (by omega), tOK_per (hTT.2.2.1 _ t12)⟩
theorem m_dtail (hB : dB s0) (hE : zD (drS k0) s0 s) (h2t : bR 0 ((s0.1 164 19).toInt - 1) r2 = true) (h5s : bR 0 ((s0.1 164 18).toInt - 1) r5 = true) (h1m : bR 0 239 m1 = true) (h2m : bR 0 239 m2 = true) (hle : m1.toInt ≤ m2.toInt) (h4 : bLights p4 = true) (h7 : s.1 164 24 = nI k) (hk6 : k ≤ 60) {p1 p1' : Int32} (hp1 : p1 = m1 * 1000 + m2) (hp4 : p1' = p4) {A B : zS → Prop}
    (hK1 : shOf s0.1 r2 r5 m1 m2 = true → k < 60 → ∀ s', zE (drM k) s s' → s'.1 164 24 = nI (k + 1) → (∀ j, j < 9 → s'.1 (183 + k) j = rv (rowOf s0.1 r2 r5 m1 m2 ow os p4) j) → A s')
    (hK0 : ¬ (shOf s0.1 r2 r5 m1 m2 = true ∧ k < 60) → ∀ s', zE lkS s s' → B s') :
    (if (s.1 164 24) = (60) then B s else (zc l g (d + 5) M_X8_isShown [.ref 164, .int r2, .int r5, .int m1] s (zKz (fun b19 s18 => s18.2.2.1 = s.2.2.1 ∧ (if b19 = true then (zc l g (d + 5) M_X8_isShown [.ref 164, .int r2, .int r5, .int m2] s18 (zKz (fun b21 s20 => s20.2.2.1 = s18.2.2.1 ∧ (if b21 = true then (zc l g (d + 5) M_X8_way [.ref 164, .int r2, .int r5, .int m1] s20 (zKi (fun r23 s22 => s22.2.2.1 = s20.2.2.1 ∧ (zc l g (d + 5) M_X8_slope [.ref 164, .int r2, .int r5, .int m1] s22 (zKi (fun r25 s24 => s24.2.2.1 = s22.2.2.1 ∧ (∀ v26 : Int32, v26 = ((1000) * (zfm (r23 + ow) (256))) + (zmax (0) (zmin (999) (r25 + os))) → (zc l g (d + 5) M_X8_way [.ref 164, .int r2, .int r5, .int m2] s24 (zKi (fun r28 s27 => s27.2.2.1 = s24.2.2.1 ∧ (zc l g (d + 5) M_X8_slope [.ref 164, .int r2, .int r5, .int m2] s27 (zKi (fun r30 s29 => s29.2.2.1 = s27.2.2.1 ∧ (∀ v31 : Int32, v31 = ((1000) * (zfm (r28 + ow) (256))) + (zmax (0) (zmin (999) (r30 + os))) → (zc l g (d + 5) M_X8_tell [.ref 164, .int r5, .int p1, .int v26, .int v31, .int p1'] s29 (zKi (fun r33 s32 => s32.2.2.1 = s29.2.2.1 ∧ A s32))))))))))))))))) else B s20)))) else B s18))))) := by
  by_cases c0 : k < 60
  rotate_left
  · rw [h7, if_pos (by rw [show k = 60 by omega]; rfl)]
    exact hK0 (fun w => c0 w.2) s zE_r
  rw [h7, if_neg (by rw [show (60 : Int32) = nI 60 from rfl, nI_eq (by omega) (by decide)]; omega)]
  obtain ⟨hR, hn, hv2, hv5, hper⟩ := m_view hB hE h2t h5s
  refine m_isShown (d := d) hR hn hv2 hv5 hper (fun s1 hE1 => ⟨zE_R hE1, ?_⟩)
  rw [(dB_fn hE r2.toNatClampNeg r5.toNatClampNeg m1).1]
  by_cases c1 : shF s0.1 r2.toNatClampNeg r5.toNatClampNeg m1 = true
  rotate_left
  · rw [if_neg c1]
    exact hK0 (fun w => c1 (by have := w.1; unfold shOf at this; rw [Bool.and_eq_true] at this; exact this.1)) s1 (lkAt hE1)
  rw [if_pos c1]
  have hE01 := zD_t hE (at_S hE1)
  obtain ⟨hR1, hn1, -, -, hper1⟩ := m_view hB hE01 h2t h5s
  refine m_isShown (d := d) hR1 hn1 hv2 hv5 hper1 (fun s2 hE2 => ⟨zE_R hE2, ?_⟩)
  rw [(dB_fn hE01 r2.toNatClampNeg r5.toNatClampNeg m2).1]
  have hE12 := zE_t (lkAt hE1) (lkAt hE2)
  by_cases c2 : shF s0.1 r2.toNatClampNeg r5.toNatClampNeg m2 = true
  rotate_left
  · rw [if_neg c2]
    exact hK0 (fun w => c2 (by have := w.1; unfold shOf at this; rw [Bool.and_eq_true] at this; exact this.2)) s2 hE12
  rw [if_pos c2]
  have hE02 := zD_t hE01 (at_S hE2)
  obtain ⟨hR2, hn2, -, -, -⟩ := m_view hB hE02 h2t h5s
  have f2 := dB_fn hE02 r2.toNatClampNeg r5.toNatClampNeg m1
  refine m_way (d := d + 1) hR2 hn2 hv2 hv5 (sh_lit (i := r5.toNatClampNeg) (by rw [f2.1]; exact c1)) (fun s3 hE3 => ⟨zE_R hE3, ?_⟩)
  rw [f2.2.1]
  have hE03 := zD_t hE02 (at_S hE3)
  obtain ⟨hR3, hn3, -, -, -⟩ := m_view hB hE03 h2t h5s
  have f3 := dB_fn hE03 r2.toNatClampNeg r5.toNatClampNeg m1
  refine m_slope (d := d + 1) hR3 hn3 hv2 hv5 (sh_lit (i := r5.toNatClampNeg) (by rw [f3.1]; exact c1)) (fun s4 hE4 => ⟨zE_R hE4, ?_⟩)
  rw [f3.2.2]
  intro v26 e26
  have hE04 := zD_t hE03 (at_S hE4)
  obtain ⟨hR4, hn4, -, -, -⟩ := m_view hB hE04 h2t h5s
  have f4 := dB_fn hE04 r2.toNatClampNeg r5.toNatClampNeg m2
  refine m_way (d := d + 1) hR4 hn4 hv2 hv5 (sh_lit (i := r5.toNatClampNeg) (by rw [f4.1]; exact c2)) (fun s5 hE5 => ⟨zE_R hE5, ?_⟩)
  rw [f4.2.1]
  have hE05 := zD_t hE04 (at_S hE5)
  obtain ⟨hR5, hn5, -, -, -⟩ := m_view hB hE05 h2t h5s
  have f5 := dB_fn hE05 r2.toNatClampNeg r5.toNatClampNeg m2
  refine m_slope (d := d + 1) hR5 hn5 hv2 hv5 (sh_lit (i := r5.toNatClampNeg) (by rw [f5.1]; exact c2)) (fun s6 hE6 => ⟨zE_R hE6, ?_⟩)
  rw [f5.2.2]
  intro v31 e31
  have hE06 := zD_t hE05 (at_S hE6)
  obtain ⟨⟨hR6, -, -, -, hSS6⟩, -, e18, -, -⟩ := dB_st hB hE06
  have hE16 := zE_t hE12 (zE_t (lkAt hE3) (zE_t (lkAt hE4) (zE_t (lkAt hE5) (lkAt hE6))))
  have e24 : s6.1 164 24 = nI k := by rw [hE16.2 164 24 (by unfold lkS; omega)]; exact h7
  have hsh : shOf s0.1 r2 r5 m1 m2 = true := by unfold shOf; rw [c1, c2]; rfl
  have hval : tellV (s6.1 164 18).toInt (rowOf s0.1 r2 r5 m1 m2 ow os p4) := by rw [e18]; exact row_ok h5s h1m h2m hle h4
  have ev : ∀ m w, w = 1000 * zfm (wyF s0.1 r2.toNatClampNeg r5.toNatClampNeg m + ow) 256 + zmax 0 (zmin 999 (slF s0.1 r2.toNatClampNeg r5.toNatClampNeg m + os)) → w = drV s0.1 r2.toNatClampNeg r5.toNatClampNeg m ow os := by
    intro m w e
    unfold drV
    rw [e, Int32.mul_comm, zmin_c]
  rw [ev m1 v26 e26, ev m2 v31 e31, hp1, hp4]
  refine m_tellD (d := d + 2) (r := rowOf s0.1 r2 r5 m1 m2 ow os p4) hR6 hSS6.1.1 hval e24 c0 (fun s7 hE7 v7 vr => ⟨zE_R hE7, ?_⟩)
  exact hK1 hsh c0 s7 (zE_t (zE_m hE16 (fun o j u => Or.inl u)) (zE_m hE7 (fun o j u => Or.inr u))) v7 vr
end DM
