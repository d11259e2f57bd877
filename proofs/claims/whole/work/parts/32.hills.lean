/-! ===== hills: the reference's best hill, its ground, and the class's grid ===== -/
abbrev zM2 : Type := Nat → Nat → Int32
/-- a place lies on hill h of the reference -/
def hIn (I : zM2) (x y : Int32) (h : Nat) : Bool := bR (I 165 h).toInt (I 167 h).toInt x && bR (I 166 h).toInt (I 168 h).toInt y
def mHn (I : zM2) (x y : Int32) : Nat → Int32
  | 0 => -1
  | h + 1 => if hIn I x y h = true then (if mHn I x y h = -1 then nI h else if I 169 h ≤ I 169 (mHn I x y h).toNatClampNeg then mHn I x y h else nI h) else mHn I x y h
def nHl (I : zM2) : Nat := (I 164 17).toNatClampNeg
def mH (I : zM2) (x y : Int32) : Int32 := mHn I x y (nHl I)
def mG (I : zM2) (x y : Int32) : Int32 := if mH I x y = -1 then 0 else I 169 (mH I x y).toNatClampNeg
theorem nI_N1 {n : Nat} (h : n < 2 ^ 31) : ¬ nI n = -1 := by
  rw [ti_eq, nI_toInt h, show (-1 : Int32).toInt = -1 from rfl]; omega
theorem mHn_r (I : zM2) (x y : Int32) : ∀ n, n < 2 ^ 31 → mHn I x y n = -1 ∨ ∃ j, j < n ∧ mHn I x y n = nI j ∧ hIn I x y j = true := by
  intro n
  induction n with
  | zero => intro _; exact Or.inl rfl
  | succ n ih =>
    intro hn
    have ih := ih (by omega)
    unfold mHn
    by_cases q : hIn I x y n = true
    · rw [if_pos q]
      by_cases q1 : mHn I x y n = -1
      · rw [if_pos q1]; exact Or.inr ⟨n, by omega, rfl, q⟩
      · rw [if_neg q1]
        by_cases q2 : I 169 n ≤ I 169 (mHn I x y n).toNatClampNeg
        · rw [if_pos q2]
          rcases ih with h | ⟨j, a, b, c⟩
          · exact absurd h q1
          · exact Or.inr ⟨j, by omega, b, c⟩
        · rw [if_neg q2]; exact Or.inr ⟨n, by omega, rfl, q⟩
    · rw [if_neg q]
      rcases ih with h | ⟨j, a, b, c⟩
      · exact Or.inl h
      · exact Or.inr ⟨j, by omega, b, c⟩
/-- the reference's hills are as many as there is room for -/
def RN (I : zM2) (o k : Nat) (m : Nat) : Prop := 0 ≤ (I o k).toInt ∧ (I o k).toInt ≤ m
theorem RN_n {I : zM2} {o k m : Nat} (h : RN I o k m) : I o k = nI (I o k).toNatClampNeg := ti_of h.1
theorem RN_l {I : zM2} {o k m : Nat} (h : RN I o k m) : (I o k).toNatClampNeg ≤ m := by
  have := ti_tn h.1; have := h.2; omega
section HL
variable {l : Launch} {g : zG} {d : Nat} {s : zS} {x y : Int32} {K : Int32 → zS → Prop}
theorem m_hillAt_5 (hR : zRok s) (hn : RN s.1 164 17 8) (h : K (mH s.1 x y) s) : ∀ m k, k + m = nHl s.1 → zt l g (d + 1) M_X8_hillAt 5 [.ref 164, .int x, .int y, .int (mHn s.1 x y k), .int (nI k)] [] s (zKi K) := by
  have hl : nHl s.1 ≤ 8 := RN_l hn
  have he : s.1 164 17 = nI (nHl s.1) := RN_n hn
  intro m
  induction m with
  | zero =>
    intro k hk
    refine t_X8_hillAt_5 hR ?_
    rw [he, if_pos (nI_le (by omega) (by omega))]
    rw [show k = nHl s.1 by omega]
    exact h
  | succ m ih =>
    intro k hk
    have ih := ih (k + 1) (by omega)
    refine t_X8_hillAt_5 hR ?_
    have hin : vp_in (nI k) 8 := vp_in_nI (by omega) (by omega)
    have hc : (nI k).toNatClampNeg = k := nI_clamp (by omega)
    rw [he, if_neg (nI_ge (by omega) (by omega)), hc, ← nI_succ, bR_z3, bR_z3]
    refine ⟨hin, hin, ?_⟩
    have e : mHn s.1 x y (k + 1) = if hIn s.1 x y k = true then (if mHn s.1 x y k = -1 then nI k else if s.1 169 k ≤ s.1 169 (mHn s.1 x y k).toNatClampNeg then mHn s.1 x y k else nI k) else mHn s.1 x y k := rfl
    by_cases q1 : bR (s.1 165 k).toInt (s.1 167 k).toInt x = true
    · rw [if_pos q1]
      refine ⟨hin, hin, ?_⟩
      by_cases q2 : bR (s.1 166 k).toInt (s.1 168 k).toInt y = true
      · rw [if_pos q2]
        rw [show hIn s.1 x y k = true by rw [hIn, q1, q2]; rfl, if_pos rfl] at e
        by_cases q3 : mHn s.1 x y k = -1
        · rw [if_pos q3]; rw [if_pos q3] at e; rw [e] at ih; exact ih
        · rw [if_neg q3]; rw [if_neg q3] at e
          have h3 := (mHn_r s.1 x y k (by omega)).resolve_left q3
          obtain ⟨j, hj, h4, -⟩ := h3
          refine ⟨hin, by rw [h4]; exact vp_in_nI (by omega) (by omega), ?_⟩
          by_cases q4 : s.1 169 k ≤ s.1 169 (mHn s.1 x y k).toNatClampNeg
          · rw [if_pos q4]; rw [if_pos q4] at e; rw [e] at ih; exact ih
          · rw [if_neg q4]; rw [if_neg q4] at e; rw [e] at ih; exact ih
      · rw [if_neg q2]
        rw [if_neg (show ¬ hIn s.1 x y k = true by rw [hIn, Bool.eq_false_iff.mpr q2]; simp)] at e
        rw [e] at ih; exact ih
    · rw [if_neg q1]
      rw [if_neg (show ¬ hIn s.1 x y k = true by rw [hIn, Bool.eq_false_iff.mpr q1]; simp)] at e
      rw [e] at ih; exact ih
theorem m_hillAt (hR : zRok s) (hn : RN s.1 164 17 8) (h : K (mH s.1 x y) s) : zc l g (d + 1) M_X8_hillAt [.ref 164, .int x, .int y] s (zKi K) :=
  t_X8_hillAt hR (m_hillAt_5 hR hn h (nHl s.1) 0 (by omega))
theorem m_groundAt (hR : zRok s) (hn : RN s.1 164 17 8) (h : K (mG s.1 x y) s) : zc l g (d + 2) M_X8_groundAt [.ref 164, .int x, .int y] s (zKi K) := by
  refine t_X8_groundAt hR (m_hillAt hR hn ⟨rfl, ?_⟩)
  have hl : nHl s.1 ≤ 8 := RN_l hn
  unfold mG at h
  by_cases q : mH s.1 x y = -1
  · rw [if_pos q]; rw [if_pos q] at h; exact h
  · rw [if_neg q]; rw [if_neg q] at h
    obtain ⟨j, hj, h4, -⟩ := (mHn_r s.1 x y (nHl s.1) (by omega)).resolve_left q
    exact ⟨by rw [mH, h4]; exact vp_in_nI (by omega) (by omega), h⟩
end HL
