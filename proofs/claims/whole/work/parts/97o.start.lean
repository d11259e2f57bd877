/-! ===== the start: a new object and a new reference ===== -/
theorem teL_i (s : zS) : ∀ i, (teL i s).1 = s.1 := by
  intro i
  induction i with
  | zero => rfl
  | succ i ih => exact ih
theorem thL_i (s : zS) (o k : Nat) : ∀ i, (thL i s).1 o k = if 92 ≤ o ∧ o < 92 + i ∧ (k = 8 ∨ k = 10) then 1 else s.1 o k := by
  intro i
  induction i with
  | zero =>
    rw [if_neg (by omega)]
    rfl
  | succ i ih =>
    have e : (thL (i + 1) s).1 o k = if o = 92 + i ∧ k = 10 then 1 else if o = 92 + i ∧ k = 8 then 1 else (thL i s).1 o k := rfl
    rw [e, ih]
    by_cases c1 : o = 92 + i ∧ k = 10
    · rw [if_pos c1, if_pos (by omega)]
    rw [if_neg c1]
    by_cases c2 : o = 92 + i ∧ k = 8
    · rw [if_pos c2, if_pos (by omega)]
    rw [if_neg c2]
    by_cases c3 : 92 ≤ o ∧ o < 92 + i ∧ (k = 8 ∨ k = 10)
    · rw [if_pos c3, if_pos (by omega)]
    · rw [if_neg c3, if_neg (by omega)]
theorem s00_i (o k : Nat) : s00.1 o k = if o = 164 ∧ k = 26 then 20 else if o = 164 ∧ k = 25 then 8 else if 92 ≤ o ∧ o < 92 + 12 ∧ (k = 8 ∨ k = 10) then 1 else if o = 64 ∧ k = 10 then 1 else if o = 64 ∧ k = 9 then 20 else if o = 64 ∧ k = 8 then 8 else if o = 67 ∧ k < 4096 then -1 else 0 := by
  have e1 : s00.1 o k = if o = 164 ∧ k = 26 then 20 else if o = 164 ∧ k = 25 then 8 else (teL 60 (thL 12 (mkX0 (zNn zS0 1)))).1 o k := rfl
  have e2 : (mkX0 (zNn zS0 1)).1 o k = if o = 64 ∧ k = 10 then 1 else if o = 64 ∧ k = 9 then 20 else if o = 64 ∧ k = 8 then 8 else if o = 67 ∧ k < 4096 then -1 else 0 := rfl
  rw [e1, teL_i, thL_i, e2]
theorem s00_0 {o k : Nat} (h1 : ¬ (o = 164 ∧ (k = 25 ∨ k = 26))) (h2 : ¬ (92 ≤ o ∧ o < 104 ∧ (k = 8 ∨ k = 10))) (h3 : ¬ (o = 64 ∧ 8 ≤ k ∧ k ≤ 10)) (h4 : ¬ o = 67) : s00.1 o k = 0 := by
  rw [s00_i, if_neg (by omega), if_neg (by omega), if_neg (by omega), if_neg (by omega), if_neg (by omega), if_neg (by omega), if_neg (by omega)]
theorem RN_0 {I : zM2} {o k m : Nat} (h : I o k = 0) : RN I o k m := by
  unfold RN
  rw [h, til.1]
  omega
theorem Rel_0 : Rel 0 s00 := by
  have z : ∀ {o k : Nat}, ¬ (o = 164 ∧ (k = 25 ∨ k = 26)) → ¬ (92 ≤ o ∧ o < 104 ∧ (k = 8 ∨ k = 10)) → ¬ (o = 64 ∧ 8 ≤ k ∧ k ≤ 10) → ¬ o = 67 → s00.1 o k = 0 := fun a b c e => s00_0 a b c e
  have h8 : s00.1 64 8 = 8 := by rw [s00_i, if_neg (by omega), if_neg (by omega), if_neg (by omega), if_neg (by omega), if_neg (by omega), if_pos ⟨rfl, rfl⟩]
  have h9 : s00.1 64 9 = 20 := by rw [s00_i, if_neg (by omega), if_neg (by omega), if_neg (by omega), if_neg (by omega), if_pos ⟨rfl, rfl⟩]
  have h10 : s00.1 64 10 = 1 := by rw [s00_i, if_neg (by omega), if_neg (by omega), if_neg (by omega), if_pos ⟨rfl, rfl⟩]
  have h25 : s00.1 164 25 = 8 := by rw [s00_i, if_neg (by omega), if_pos ⟨rfl, rfl⟩]
  have h26 : s00.1 164 26 = 20 := by rw [s00_i, if_pos ⟨rfl, rfl⟩]
  have h67 : ∀ k, k < 4096 → s00.1 67 k = -1 := fun k hk => by
    rw [s00_i, if_neg (by omega), if_neg (by omega), if_neg (by omega), if_neg (by omega), if_neg (by omega), if_neg (by omega), if_pos ⟨rfl, hk⟩]
  have n17 : nHl s00.1 = 0 := by unfold nHl; rw [z (by omega) (by omega) (by omega) (by omega)]; rfl
  have n18 : nS s00.1 = 0 := by unfold nS; rw [z (by omega) (by omega) (by omega) (by omega)]; rfl
  have n19 : nT s00.1 = 0 := by unfold nT; rw [z (by omega) (by omega) (by omega) (by omega)]; rfl
  have n24 : nK s00.1 = 0 := by unfold nK; rw [z (by omega) (by omega) (by omega) (by omega)]; rfl
  have n29 : nX s00.1 = 0 := by unfold nX; rw [z (by omega) (by omega) (by omega) (by omega)]; rfl
  have mh : ∀ x y, mH s00.1 x y = -1 := fun x y => by unfold mH; rw [n17]; rfl
  have e1 : (1 : Int32).toInt = 1 := rfl
  have hH : RelH s00.1 := by
    refine ⟨RN_0 (z (by omega) (by omega) (by omega) (by omega)), by rw [z (by omega) (by omega) (by omega) (by omega), z (by omega) (by omega) (by omega) (by omega)], fun h hh => ?_, RN_0 (z (by omega) (by omega) (by omega) (by omega)), fun x y a b c e => ?_⟩
    · rw [n17] at hh; omega
    · have e64 : (64 : Int32).toInt = 64 := rfl
      have h1 : (x * 64).toInt = x.toInt * 64 := by rw [ti_mul (by rw [e64]; omega) (by rw [e64]; omega), e64]
      have h2 : (x * 64 + y).toInt = x.toInt * 64 + y.toInt := by rw [ti_add (by rw [h1]; omega) (by rw [h1]; omega), h1]
      have h3 := ti_tn (x := x * 64 + y) (by omega)
      rw [z (by omega) (by omega) (by omega) (by omega), h67 _ (by omega), mh]
      exact ⟨by unfold mG; rw [mh, if_pos rfl], rfl⟩
  have hL : RelL s00.1 := ⟨RN_0 (z (by omega) (by omega) (by omega) (by omega)), by rw [z (by omega) (by omega) (by omega) (by omega), z (by omega) (by omega) (by omega) (by omega)], fun k hk => by rw [n24] at hk; omega⟩
  refine ⟨⟨hR00, hH, ⟨by rw [h8, h25], by rw [h9, h26], by unfold RN; rw [h25]; decide, by unfold RN; rw [h26]; decide⟩, ?_, ?_, hL, ?_⟩, ?_, ?_, ?_, ?_, ?_⟩
  · refine ⟨RN_0 (z (by omega) (by omega) (by omega) (by omega)), by rw [z (by omega) (by omega) (by omega) (by omega), z (by omega) (by omega) (by omega) (by omega)], fun t ht => by rw [n19] at ht; omega, fun t _ ht => ?_⟩
    refine ⟨z (by omega) (by omega) (by omega) (by omega), z (by omega) (by omega) (by omega) (by omega), ?_, z (by omega) (by omega) (by omega) (by omega)⟩
    rw [s00_i, if_neg (by omega), if_neg (by omega), if_pos (by omega)]
  · exact ⟨RN_0 (z (by omega) (by omega) (by omega) (by omega)), by rw [z (by omega) (by omega) (by omega) (by omega), z (by omega) (by omega) (by omega) (by omega)], fun i hi => by rw [n18] at hi; omega⟩
  · exact ⟨by rw [h10, e1]; omega, fun k hk => by rw [n24] at hk; omega⟩
  · exact ⟨RN_0 (z (by omega) (by omega) (by omega) (by omega)), by rw [z (by omega) (by omega) (by omega) (by omega), z (by omega) (by omega) (by omega) (by omega)], fun k hk => by rw [n29] at hk; omega⟩
  · have h15 : s00.2.2.1 64 15 = 79 := by decide +kernel
    refine ⟨q00, wfQ_0, by decide, ?_, ?_⟩
    · rw [h15]
      exact ⟨fun i hi => absurd hi (Nat.not_lt_zero i), show s00.1 79 2 = 0 from z (by omega) (by omega) (by omega) (by omega), show s00.1 79 5 = nI 0 from z (by omega) (by omega) (by omega) (by omega), by decide, fun i hi => absurd hi (Nat.not_lt_zero i)⟩
    · exact ⟨fun i hi => absurd hi (Nat.not_lt_zero i), show s00.1 259 0 = 0 from z (by omega) (by omega) (by omega) (by omega), show s00.1 257 0 = nI 0 from z (by omega) (by omega) (by omega) (by omega), fun i hi => absurd hi (Nat.not_lt_zero i)⟩
  · intro k hk
    rw [n24] at hk
    omega
  · rfl
  · rw [h10, e1]
    omega
