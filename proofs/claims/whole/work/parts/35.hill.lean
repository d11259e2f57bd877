/-! ===== hill: both sides ===== -/
theorem bF {lo hi : Int} {x : Int32} (h : ¬ bR lo hi x = true) : bR lo hi x = false := Bool.eq_false_iff.mpr h
theorem pl_64 {p : Int32} (h : bR 0 4095 p = true) : 0 ≤ (p / 64).toInt ∧ (p / 64).toInt ≤ 63 ∧ 0 ≤ (p % 64).toInt ∧ (p % 64).toInt ≤ 63 ∧ p.toInt = (p / 64).toInt * 64 + (p % 64).toInt := by
  rw [bR_t] at h
  have e : (64 : Int32).toInt = 64 := rfl
  rw [ti_divp h.1, ti_modp h.1, e]
  omega
/-- the cells that hill writes on the reference's side -/
def hillW (s : zS) (p q ht : Int32) : zS := zI (zI (zI (zI (zI (zI s 165 (nHl s.1) (zmin (p / 64) (q / 64))) 167 (nHl s.1) (zmax (p / 64) (q / 64))) 166 (nHl s.1) (zmin (p % 64) (q % 64))) 168 (nHl s.1) (zmax (p % 64) (q % 64))) 169 (nHl s.1) ht) 164 17 (s.1 164 17 + 1)
theorem ti_1 {x : Int32} (h : x.toInt < 2147483647) : (x + 1).toInt = x.toInt + 1 := by
  have e : (1 : Int32).toInt = 1 := rfl
  have := ti_rng x
  rw [ti_add (by omega) (by omega), e]
theorem hin_old {s : zS} {p q ht x y : Int32} {h : Nat} (hh : h < nHl s.1) : hIn (hillW s p q ht).1 x y h = hIn s.1 x y h := by
  have hn : ¬ h = nHl s.1 := by omega
  simp [hIn, hillW, zI_1, hn]
theorem hi_old {s : zS} {p q ht : Int32} {h : Nat} (hh : h < nHl s.1) : (hillW s p q ht).1 169 h = s.1 169 h := by
  have hn : ¬ h = nHl s.1 := by omega
  simp [hillW, zI_1, hn]
theorem hi_new {s : zS} {p q ht : Int32} : (hillW s p q ht).1 169 (nHl s.1) = ht := by
  simp [hillW, zI_1]
theorem mHn_old {s : zS} {p q ht x y : Int32} (hl : nHl s.1 ≤ 8) : ∀ n, n ≤ nHl s.1 → mHn (hillW s p q ht).1 x y n = mHn s.1 x y n := by
  intro n
  induction n with
  | zero => intro _; rfl
  | succ n ih =>
    intro hn
    have ih := ih (by omega)
    have e : mHn (hillW s p q ht).1 x y (n + 1) = if hIn (hillW s p q ht).1 x y n = true then (if mHn (hillW s p q ht).1 x y n = -1 then nI n else if (hillW s p q ht).1 169 n ≤ (hillW s p q ht).1 169 (mHn (hillW s p q ht).1 x y n).toNatClampNeg then mHn (hillW s p q ht).1 x y n else nI n) else mHn (hillW s p q ht).1 x y n := rfl
    rw [e, ih, hin_old (by omega), hi_old (by omega)]
    rcases mHn_r s.1 x y n (by omega) with q | ⟨j, a, b, c⟩
    · rw [if_pos q]
      show _ = if hIn s.1 x y n = true then (if mHn s.1 x y n = -1 then nI n else if s.1 169 n ≤ s.1 169 (mHn s.1 x y n).toNatClampNeg then mHn s.1 x y n else nI n) else mHn s.1 x y n
      rw [if_pos q]
    · have : (hillW s p q ht).1 169 (mHn s.1 x y n).toNatClampNeg = s.1 169 (mHn s.1 x y n).toNatClampNeg := by
        rw [b, nI_clamp (by omega)]; exact hi_old (by omega)
      rw [this]
      rfl
theorem nHl_new {s : zS} {p q ht : Int32} (hn : RN s.1 164 17 8) : nHl (hillW s p q ht).1 = nHl s.1 + 1 := by
  have hl : nHl s.1 ≤ 8 := RN_l hn
  show (if (164 : Nat) = 164 ∧ 17 = 17 then s.1 164 17 + 1 else _ : Int32).toNatClampNeg = _
  rw [if_pos ⟨rfl, rfl⟩, RN_n hn, ← nI_succ, nI_clamp (by unfold nHl at hl; omega)]
  rfl
/-- the best hill after one more -/
theorem mH_new {s : zS} {p q ht x y : Int32} (hH : RN s.1 164 17 8) (hht : 1 ≤ ht.toInt) :
    mH (hillW s p q ht).1 x y = (if hIn (hillW s p q ht).1 x y (nHl s.1) = true ∧ mG s.1 x y < ht then nI (nHl s.1) else mH s.1 x y) ∧
    mG (hillW s p q ht).1 x y = (if hIn (hillW s p q ht).1 x y (nHl s.1) = true ∧ mG s.1 x y < ht then ht else mG s.1 x y) := by
  have hl : nHl s.1 ≤ 8 := RN_l hH
  have h0 := mHn_old (p := p) (q := q) (ht := ht) (x := x) (y := y) hl (nHl s.1) (Nat.le_refl _)
  have hr := mHn_r s.1 x y (nHl s.1) (by omega)
  have e : mH (hillW s p q ht).1 x y = if hIn (hillW s p q ht).1 x y (nHl s.1) = true then (if mH s.1 x y = -1 then nI (nHl s.1) else if ht ≤ (hillW s p q ht).1 169 (mH s.1 x y).toNatClampNeg then mH s.1 x y else nI (nHl s.1)) else mH s.1 x y := by
    show mHn _ x y (nHl (hillW s p q ht).1) = _
    rw [nHl_new hH]
    show (if hIn (hillW s p q ht).1 x y (nHl s.1) = true then (if mHn (hillW s p q ht).1 x y (nHl s.1) = -1 then nI (nHl s.1) else if (hillW s p q ht).1 169 (nHl s.1) ≤ (hillW s p q ht).1 169 (mHn (hillW s p q ht).1 x y (nHl s.1)).toNatClampNeg then mHn (hillW s p q ht).1 x y (nHl s.1) else nI (nHl s.1)) else mHn (hillW s p q ht).1 x y (nHl s.1)) = _
    rw [h0, hi_new]
    rfl
  have hold : ¬ mH s.1 x y = -1 → (hillW s p q ht).1 169 (mH s.1 x y).toNatClampNeg = mG s.1 x y := by
    intro q1
    obtain ⟨j, a, b, c⟩ := hr.resolve_left q1
    rw [mG, if_neg q1]
    show (hillW s p q ht).1 169 (mHn s.1 x y (nHl s.1)).toNatClampNeg = s.1 169 (mHn s.1 x y (nHl s.1)).toNatClampNeg
    rw [b, nI_clamp (by omega)]; exact hi_old a
  have hg0 : mH s.1 x y = -1 → mG s.1 x y = 0 := fun q1 => by rw [mG, if_pos q1]
  have e1 : mH (hillW s p q ht).1 x y = (if hIn (hillW s p q ht).1 x y (nHl s.1) = true ∧ mG s.1 x y < ht then nI (nHl s.1) else mH s.1 x y) := by
    rw [e]
    by_cases q0 : hIn (hillW s p q ht).1 x y (nHl s.1) = true
    · rw [if_pos q0]
      by_cases q1 : mH s.1 x y = -1
      · rw [if_pos q1, if_pos ⟨q0, by rw [hg0 q1, ti_lt, til.1]; omega⟩]
      · rw [if_neg q1, hold q1]
        by_cases q2 : ht ≤ mG s.1 x y
        · rw [if_pos q2, if_neg (by rw [ti_lt]; rw [ti_le] at q2; intro w; omega)]
        · rw [if_neg q2, if_pos ⟨q0, by rw [ti_lt]; rw [ti_le] at q2; omega⟩]
    · rw [if_neg q0, if_neg (fun w => q0 w.1)]
  refine ⟨e1, ?_⟩
  rw [show mG (hillW s p q ht).1 x y = if mH (hillW s p q ht).1 x y = -1 then 0 else (hillW s p q ht).1 169 (mH (hillW s p q ht).1 x y).toNatClampNeg from rfl, e1]
  by_cases q0 : hIn (hillW s p q ht).1 x y (nHl s.1) = true ∧ mG s.1 x y < ht
  · rw [if_pos q0, if_pos q0, if_neg (nI_N1 (by omega)), nI_clamp (by omega), hi_new]
  · rw [if_neg q0, if_neg q0]
    by_cases q1 : mH s.1 x y = -1
    · rw [if_pos q1, hg0 q1]
    · rw [if_neg q1, hold q1]
