/-! ===== the class's grid follows the reference's hills ===== -/
def RelH (I : zM2) : Prop :=
  RN I 164 17 8 ∧ I 65 3 = I 164 17 ∧
  (∀ h, h < nHl I → 0 ≤ (I 165 h).toInt ∧ (I 167 h).toInt ≤ 63 ∧ 0 ≤ (I 166 h).toInt ∧ (I 168 h).toInt ≤ 63 ∧ 1 ≤ (I 169 h).toInt ∧ (I 169 h).toInt ≤ 60 ∧ (I 169 h).toInt ≤ (I 65 2).toInt) ∧
  RN I 65 2 60 ∧
  ∀ x y : Int32, 0 ≤ x.toInt → x.toInt ≤ 63 → 0 ≤ y.toInt → y.toInt ≤ 63 → I 66 (x * 64 + y).toNatClampNeg = mG I x y ∧ I 67 (x * 64 + y).toNatClampNeg = mH I x y
theorem gi_i {x y : Int32} (h1 : 0 ≤ x.toInt) (h2 : x.toInt ≤ 63) (h3 : 0 ≤ y.toInt) (h4 : y.toInt ≤ 63) : (x * 64 + y).toInt = x.toInt * 64 + y.toInt := by
  have e : (64 : Int32).toInt = 64 := rfl
  have e1 : (x * 64).toInt = x.toInt * 64 := by rw [ti_mul (by rw [e]; omega) (by rw [e]; omega), e]
  rw [ti_add (by rw [e1]; omega) (by rw [e1]; omega), e1]
theorem gi_n {x y : Int32} (h1 : 0 ≤ x.toInt) (h2 : x.toInt ≤ 63) (h3 : 0 ≤ y.toInt) (h4 : y.toInt ≤ 63) : ((x * 64 + y).toNatClampNeg : Int) = x.toInt * 64 + y.toInt := by
  have := gi_i h1 h2 h3 h4
  rw [ti_tn (by omega), this]
theorem gi_v {x y : Int32} (h1 : 0 ≤ x.toInt) (h2 : x.toInt ≤ 63) (h3 : 0 ≤ y.toInt) (h4 : y.toInt ≤ 63) : vp_in (x * 64 + y) 4096 := by
  have := gi_i h1 h2 h3 h4
  exact vin_i (by omega) (by omega)
theorem mG_r {I : zM2} (h : RelH I) (x y : Int32) : 0 ≤ (mG I x y).toInt ∧ (mG I x y).toInt ≤ (I 65 2).toInt := by
  have hl : nHl I ≤ 8 := RN_l h.1
  unfold mG
  by_cases q : mH I x y = -1
  · rw [if_pos q]; exact ⟨by decide, by have := h.2.2.2.1.1; exact this⟩
  · rw [if_neg q]
    obtain ⟨j, hj, h4, -⟩ := (mHn_r I x y (nHl I) (by omega)).resolve_left q
    have h5 := h.2.2.1 j hj
    rw [mH, h4, nI_clamp (by omega)]
    omega
theorem mG_60 {I : zM2} (h : RelH I) (x y : Int32) : 0 ≤ (mG I x y).toInt ∧ (mG I x y).toInt ≤ 60 := by
  have h1 := mG_r h x y
  have h2 := h.2.2.2.1.2
  omega
theorem mH_out {I : zM2} (h : RelH I) {x y : Int32} (hx : ¬ (0 ≤ x.toInt ∧ x.toInt ≤ 63 ∧ 0 ≤ y.toInt ∧ y.toInt ≤ 63)) : mH I x y = -1 := by
  have hl : nHl I ≤ 8 := RN_l h.1
  rcases mHn_r I x y (nHl I) (by omega) with q | ⟨j, hj, -, q⟩
  · exact q
  · exfalso
    have h5 := h.2.2.1 j hj
    unfold hIn at q
    rw [Bool.and_eq_true, bR_t, bR_t] at q
    omega
theorem mG_out {I : zM2} (h : RelH I) {x y : Int32} (hx : ¬ (0 ≤ x.toInt ∧ x.toInt ≤ 63 ∧ 0 ≤ y.toInt ∧ y.toInt ≤ 63)) : mG I x y = 0 := by
  rw [mG, if_pos (mH_out h hx)]
section HG
variable {l : Launch} {g : zG} {d : Nat} {s : zS} {x y : Int32} {K : Int32 → zS → Prop}
theorem c_groundAt (hR : zRok s) (hH : RelH s.1) (h : K (mG s.1 x y) s) : zc l g d M_X1_groundAt [.ref 65, .int x, .int y] s (zKi K) := by
  refine t_X1_groundAt hR ?_
  by_cases q : 0 ≤ x.toInt ∧ x.toInt ≤ 63 ∧ 0 ≤ y.toInt ∧ y.toInt ≤ 63
  · simp only [ti_lt, ti_le, til]
    rw [if_neg (by omega), if_neg (by omega), if_neg (by omega), if_neg (by omega)]
    refine ⟨gi_v q.1 q.2.1 q.2.2.1 q.2.2.2, ?_⟩
    rw [(hH.2.2.2.2 x y q.1 q.2.1 q.2.2.1 q.2.2.2).1]
    exact h
  · rw [mG_out hH q] at h
    simp only [ti_lt, ti_le, til]
    repeat' split
    all_goals first | exact h | (exfalso; omega)
theorem c_makerAt (hR : zRok s) (hH : RelH s.1) (h : K (mH s.1 x y) s) : zc l g d M_X1_makerAt [.ref 65, .int x, .int y] s (zKi K) := by
  refine t_X1_makerAt hR ?_
  by_cases q : 0 ≤ x.toInt ∧ x.toInt ≤ 63 ∧ 0 ≤ y.toInt ∧ y.toInt ≤ 63
  · simp only [ti_lt, ti_le, til]
    rw [if_neg (by omega), if_neg (by omega), if_neg (by omega), if_neg (by omega)]
    refine ⟨gi_v q.1 q.2.1 q.2.2.1 q.2.2.2, ?_⟩
    rw [(hH.2.2.2.2 x y q.1 q.2.1 q.2.2.1 q.2.2.2).2]
    exact h
  · rw [mH_out hH q] at h
    simp only [ti_lt, ti_le, til]
    repeat' split
    all_goals first | exact h | (exfalso; omega)
end HG
