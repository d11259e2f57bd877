/-! ===== seer and ground: both sides ===== -/
theorem RN_lt {I : zM2} {o k m : Nat} {c : Int32} (h : RN I o k m) (hc : c.toInt = m) (hne : ¬ I o k = c) : (I o k).toNatClampNeg < m := by
  have h1 := RN_l h
  have h2 := ti_tn h.1
  rcases Nat.lt_or_ge (I o k).toNatClampNeg m with w | w
  · exact w
  · exact absurd (i32_e (by omega)) hne
theorem RN_s {I : zM2} {o k m : Nat} (h : RN I o k m) (hl : (I o k).toNatClampNeg < m) (hm : m < 2 ^ 31) : (I o k + 1).toNatClampNeg = (I o k).toNatClampNeg + 1 ∧ (I o k + 1).toInt = (I o k).toInt + 1 ∧ (I o k + 1).toInt ≤ m := by
  have h2 := ti_tn h.1
  have e := ti_1 (x := I o k) (by omega)
  refine ⟨?_, e, by omega⟩
  have := ti_tn (x := I o k + 1) (by have := h.1; omega)
  omega
theorem i32_s1 (x : Int32) : x + 1 - 1 = x := by
  have := Int32.add_sub_cancel x 1
  exact this
theorem RelS_c {I I' : zM2} (h1 : I' 164 18 = I 164 18) (h2 : I' 64 3 = I 64 3) (h3 : ∀ k, I' 69 k = I 69 k) (h4 : ∀ k, I' 170 k = I 170 k) (h5 : ∀ k, I' 171 k = I 171 k) (h : RelS I) : RelS I' := by
  unfold RelS nS RN at *
  rw [h1, h2]
  exact ⟨h.1, h.2.1, fun i hi => by rw [h3, h4, h5]; exact h.2.2 i hi⟩
theorem RelS_v {I : zM2} (h : RelS I) {i : Nat} (hi : i < nS I) : 0 ≤ (I 170 i).toInt ∧ (I 170 i).toInt ≤ 63 ∧ 0 ≤ (I 171 i).toInt ∧ (I 171 i).toInt ≤ 63 ∧ I 69 i / 64 = I 170 i ∧ I 69 i % 64 = I 171 i ∧ (I 69 i).toInt = (I 170 i).toInt * 64 + (I 171 i).toInt := by
  obtain ⟨a, b, c⟩ := h.2.2 i hi
  have := pl_64 a
  rw [b, c]
  exact ⟨this.1, this.2.1, this.2.2.1, this.2.2.2.1, rfl, rfl, this.2.2.2.2⟩
section OS
variable {l : Launch} {g : zG} {d : Nat} {s : zS} {p : Int32}
theorem op_seer (hR : zRok s) {Q : zS → Prop} (hS : RelS s.1) (h1 : Q s)
    (h2 : ∀ s', zE seerS s s' → RelS s'.1 → nS s'.1 = nS s.1 + 1 → (∀ i, i < nS s.1 → s'.1 170 i = s.1 170 i ∧ s'.1 171 i = s.1 171 i ∧ s'.1 69 i = s.1 69 i) → Q s') :
    zc l g (d + 2) M_X7_seer [.ref 64, .int p] s (zKi fun r s5 => zc l g (d + 2) M_X8_seer [.ref 164, .int p] s5 (zKi fun r' s10 => r = r' ∧ Q s10)) := by
  have hc := hS.1
  have hv := hS.2.1
  refine t_X7_seer hR (c_isPlace hR ⟨rfl, ?_⟩)
  by_cases q1 : bR 0 4095 p = true
  rotate_left
  · rw [if_neg q1]
    refine t_X8_seer hR (m_isPlace hR ⟨rfl, ?_⟩)
    rw [if_neg q1]
    exact ⟨rfl, h1⟩
  rw [if_pos q1, hv]
  by_cases q2 : s.1 164 18 = 20
  · rw [if_neg (by rw [q2]; decide)]
    refine t_X8_seer hR (m_isPlace hR ⟨rfl, ?_⟩)
    rw [if_pos q1, if_pos q2]
    exact ⟨rfl, h1⟩
  have hlt := RN_lt hc rfl q2
  have hvp : vp_in (s.1 164 18) 20 := vin_i hc.1 (by have := ti_tn hc.1; omega)
  rw [if_pos (by rw [ti_lt]; simp only [til]; have := ti_tn hc.1; omega)]
  refine ⟨hvp, ?_⟩
  obtain ⟨u1, u2, u3⟩ := RN_s hc hlt (by decide)
  generalize hs5 : zI (zI s 69 (s.1 164 18).toNatClampNeg p) 64 3 (s.1 164 18 + 1) = s5
  have hE5 : zE seerS s s5 := by
    rw [← hs5]; exact zE_i (zE_i0 (by simp [seerS])) (by simp [seerS])
  have hR5 := zE_K hE5 hR
  have e18 : s5.1 164 18 = s.1 164 18 := by rw [← hs5]; rfl
  refine t_X8_seer hR5 (m_isPlace hR5 ⟨rfl, ?_⟩)
  rw [if_pos q1, e18, if_neg q2]
  refine ⟨hvp, hvp, i32_s1 _ |>.symm, ?_⟩
  have hE : zE seerS s (zI (zI (zI s5 170 (s.1 164 18).toNatClampNeg (p / 64)) 171 (s.1 164 18).toNatClampNeg (p % 64)) 164 18 (s.1 164 18 + 1)) :=
    zE_i (zE_i (zE_i hE5 (by simp [seerS])) (by simp [seerS])) (by simp [seerS])
  refine h2 _ hE ?_ ?_ ?_
  · refine ⟨?_, ?_, ?_⟩
    · unfold RN; rw [zI_eq]; have := hc.1; omega
    · rw [zI_eq, zI_o (by decide), zI_o (by decide), zI_o (by decide), ← hs5, zI_eq]
    · intro i hi
      unfold nS at hi
      rw [zI_eq, u1] at hi
      rw [← hs5]
      by_cases w : i = (s.1 164 18).toNatClampNeg
      · subst w
        simp [zI_1, q1]
      · have := hS.2.2 i (by unfold nS; omega)
        simp [zI_1, w]
        exact this
  · unfold nS; rw [zI_eq, u1]
  · intro i hi
    have w : ¬ i = (s.1 164 18).toNatClampNeg := by unfold nS at hi; omega
    rw [← hs5]
    simp [zI_1, w]
theorem op_ground (hR : zRok s) {Q : zS → Prop} (hH : RelH s.1) (h1 : Q s) :
    zc l g (d + 3) M_X7_ground [.ref 64, .int p] s (zKi fun r s5 => zc l g (d + 3) M_X8_ground [.ref 164, .int p] s5 (zKi fun r' s10 => r = r' ∧ Q s10)) := by
  refine t_X7_ground hR (c_isPlace hR ⟨rfl, ?_⟩)
  by_cases q1 : bR 0 4095 p = true
  rotate_left
  · rw [if_neg q1]
    refine t_X8_ground hR (m_isPlace hR ⟨rfl, ?_⟩)
    rw [if_neg q1]
    exact ⟨rfl, h1⟩
  rw [if_pos q1]
  refine c_groundAt hR hH ⟨rfl, ?_⟩
  refine t_X8_ground hR (m_isPlace hR ⟨rfl, ?_⟩)
  rw [if_pos q1]
  exact m_groundAt hR hH.1 ⟨rfl, rfl, h1⟩
end OS
