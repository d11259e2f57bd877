/-! ===== draw ===== -/
section OD
variable {l : Launch} {g : zG} {d : Nat} {s : zS} {p0 p1 : Int32}
theorem op_draw {Q : zS → Prop} (hC : Core s) (h1 : Q s) (h2 : ∀ s', zD (drS (nK s.1)) s s' → RelL s'.1 → nK s.1 ≤ nK s'.1 → (∀ k, nK s.1 ≤ k → k < nK s'.1 → s'.1 (104 + k) 10 = 0 ∧ s'.1 (104 + k) 13 = 0) → Q s') :
    zc l g (d + 6) M_X7_draw [.ref 64, .int p0, .int p1] s (zKi fun r s5 => zc l g (d + 6) M_X8_draw [.ref 164, .int p0, .int p1] s5 (zKi fun r' s10 => r = r' ∧ Q s10)) := by
  have hR := hC.1
  have hB : dB s := ⟨hC.1, hC.2.1, hC.2.2.1, hC.2.2.2.1, hC.2.2.2.2.1⟩
  have hL := hC.2.2.2.2.2.1
  have hT := hC.2.2.2.1
  have hS := hC.2.2.2.2.1
  obtain ⟨k7, k24, k60⟩ := Core_c7 hC
  have e1 : (1 : Int32).toInt = 1 := rfl
  have e20 : (20 : Int32).toInt = 20 := rfl
  have eM : (1000000 : Int32).toInt = 1000000 := rfl
  have z0 : zinr p0.toInt64 0 1000000 = bR 0 1000000 p0 := zq1 rfl rfl
  have z1 : zinr p1.toInt64 1 20 = bR 1 20 p1 := zq1 rfl rfl
  have bad : ¬ (bR 0 1000000 p0 = true ∧ bR 1 20 p1 = true ∧ ¬ s.1 164 19 = 0 ∧ ¬ s.1 164 18 = 0) → zc l g (d + 6) M_X8_draw [.ref 164, .int p0, .int p1] s (zKi fun r' s10 => -1 = r' ∧ Q s10) := by
    intro w
    refine t_X8_draw (d := d + 5) hR ?_
    rw [z0, z1]
    by_cases a1 : bR 0 1000000 p0 = true
    rotate_left
    · rw [if_neg a1]; exact ⟨rfl, h1⟩
    rw [if_pos a1]
    by_cases a2 : bR 1 20 p1 = true
    rotate_left
    · rw [if_neg a2]; exact ⟨rfl, h1⟩
    rw [if_pos a2]
    by_cases a3 : s.1 164 19 = 0
    · rw [if_pos a3]; exact ⟨rfl, h1⟩
    rw [if_neg a3]
    by_cases a4 : s.1 164 18 = 0
    · rw [if_pos a4]; exact ⟨rfl, h1⟩
    exact absurd ⟨a1, a2, a3, a4⟩ w
  refine t_X7_draw (d := d + 5) hR ?_
  by_cases c1 : p0 < 0
  · rw [if_pos c1]; exact bad (fun w => by have := bR_t.mp w.1; rw [ti_lt, til.1] at c1; omega)
  rw [if_neg c1]
  by_cases c2 : 1000000 < p0
  · rw [if_pos c2]; exact bad (fun w => by have := bR_t.mp w.1; rw [ti_lt, eM] at c2; omega)
  rw [if_neg c2]
  by_cases c3 : p1 < 1
  · rw [if_pos c3]; exact bad (fun w => by have := bR_t.mp w.2.1; rw [ti_lt, e1] at c3; omega)
  rw [if_neg c3]
  by_cases c4 : 20 < p1
  · rw [if_pos c4]; exact bad (fun w => by have := bR_t.mp w.2.1; rw [ti_lt, e20] at c4; omega)
  rw [if_neg c4, hT.2.1, hS.2.1]
  by_cases c5 : s.1 164 19 = 0
  · rw [if_pos c5]; exact bad (fun w => w.2.2.1 c5)
  rw [if_neg c5]
  by_cases c6 : s.1 164 18 = 0
  · rw [if_pos c6]; exact bad (fun w => w.2.2.2 c6)
  rw [if_neg c6]
  rw [ti_lt, til.1] at c1
  rw [ti_lt, eM] at c2
  rw [ti_lt, e1] at c3
  rw [ti_lt, e20] at c4
  have a1 : bR 0 1000000 p0 = true := bR_t.mpr (by omega)
  have a2 : bR 1 20 p1 = true := bR_t.mpr (by omega)
  have t1 : 1 ≤ (s.1 164 19).toInt := by have := hT.1.1; rw [ti_eq, til.1] at c5; omega
  have s1 : 1 ≤ (s.1 164 18).toInt := by have := hS.1.1; rw [ti_eq, til.1] at c6; omega
  have pn : p1 = nI p1.toNatClampNeg := ti_of (by omega)
  have vn : p0 = nI p0.toNatClampNeg := ti_of (by omega)
  have n20 : p1.toNatClampNeg ≤ 20 := by have := ti_tn (x := p1) (by omega); omega
  have v31 : p0.toNatClampNeg < 2147483648 := by have := ti_tn (x := p0) (by omega); have := ti_rng p0; omega
  obtain ⟨R, hRr⟩ : ∃ R, R = drows s.1 (nK s.1) p1.toNatClampNeg p0.toNatClampNeg [] := ⟨_, rfl⟩
  have key := c_draw_48 (l := l) (g := g) (d := d) (k0 := nK s.1) (R := R) (K := fun r s5 => zc l g (d + 6) M_X8_draw [.ref 164, .int p0, .int p1] s5 (zKi fun r' s10 => r = r' ∧ Q s10)) hB t1 s1 n20 (fun s2 hE2 hr2 hval hl2 => ?_) p1.toNatClampNeg 0 p0.toNatClampNeg [] (zI s 64 18 p0) (by omega) (zD_E (zE_i0 (S := lS18) ⟨rfl, rfl⟩) (fun o j u => by unfold lS18 at u; unfold drS; omega)) (zI_o (by decide)) (by rw [zI_eq]; exact vn) v31 ⟨?_, k60, fun i hi => absurd hi (Nat.not_lt_zero i)⟩ (fun r hr => absurd hr List.not_mem_nil) hRr.symm
  · rw [← pn] at key
    exact key
  rotate_left
  · rw [zI_k (by decide)]; exact k7
  -- the reference
  obtain ⟨hB2, e19, e18, -, -⟩ := dB_st hB hE2
  refine t_X8_draw (d := d + 5) hB2.1 ?_
  rw [z0, z1, if_pos a1, if_pos a2, e19, if_neg c5, e18, if_neg c6]
  have key2 := m_draw_51 (l := l) (g := g) (d := d) (k0 := nK s.1) (R := R) (sB := s2) (K := fun r' s10 => nI R.length = r' ∧ Q s10) hB t1 s1 n20 (fun s3 hE3 hc hr3 => ⟨rfl, ?_⟩) p1.toNatClampNeg 0 p0.toNatClampNeg [] (zLg s2 164 44 p0.toInt64) (by omega) (zD_t hE2 (zD_lg rfl rfl)) (fun o j q q2 => rfl) ?_ ⟨?_, k60, fun i hi => absurd hi (Nat.not_lt_zero i)⟩ hRr.symm
  · rw [← pn] at key2
    exact key2
  rotate_left
  · rw [zLg_eq, ti_64]
    exact (ti_tn (by omega)).symm
  · show s2.1 164 24 = nI (nK s.1)
    rw [hl2]; exact k24
  -- the end
  obtain ⟨m24, m60, mrow⟩ := hr3
  obtain ⟨x7, -, xrow⟩ := hr2
  obtain ⟨hB3, f19, f18, -, -⟩ := dB_st hB hE3
  have nk : nK s3.1 = nK s.1 + R.length := by unfold nK; rw [m24, nI_clamp (by omega)]; rfl
  have i64 : s3.1 64 7 = nI (nK s.1 + R.length) := by rw [hc 64 7 (by omega) (by decide)]; exact x7
  refine h2 s3 hE3 ⟨?_, by rw [i64, m24], fun k hk => ?_⟩ (by omega) (fun k h3 h4 => ?_)
  · unfold RN; rw [m24, nI_toInt (by omega)]; omega
  · rw [nk] at hk
    by_cases ko : k < nK s.1
    · have hl := hL.2.2 k ko
      unfold lOK at *
      have e1 : ∀ j, s3.1 (104 + k) j = s.1 (104 + k) j := fun j => hE3.2 _ _ (by unfold drS lkS; omega)
      have e2 : ∀ j, s3.1 (183 + k) j = s.1 (183 + k) j := fun j => hE3.2 _ _ (by unfold drS lkS; omega)
      simp only [e1, e2, f18]
      exact hl
    · obtain ⟨i, rfl⟩ : ∃ i, k = nK s.1 + i := ⟨k - nK s.1, by omega⟩
      have hi : i < R.length := by omega
      have hv := hval _ (getD_mem (e := r00) hi)
      refine rv_ok (r := R.getD i r00) (by rw [f18]; exact hv) (fun j hj => ?_) (mrow i hi)
      rw [hc _ j (by omega) (by omega)]
      exact (xrow i hi).1 j hj
  · rw [nk] at h4
    obtain ⟨i, rfl⟩ : ∃ i, k = nK s.1 + i := ⟨k - nK s.1, by omega⟩
    have hi : i < R.length := by omega
    rw [hc _ 10 (by omega) (by omega), hc _ 13 (by omega) (by omega)]
    exact (xrow i hi).2
end OD
