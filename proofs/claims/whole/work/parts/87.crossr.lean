/-! ===== cross: the reference's place, and the loops ===== -/
section RX2
variable {l : Launch} {g : zG} {d : Nat} {s : zS} {a b : Nat} {x y : Int32}
theorem tailW {K : Bool → zS → Prop} {o W w : Int32} (h : K (decide (¬ o < apF W w)) s) : if o < apF W w then K false s else K true s := by
  by_cases c2 : o < apF W w
  · rw [if_pos c2]; rw [decide_eq_false (fun w => w c2)] at h; exact h
  · rw [if_neg c2]; rw [decide_eq_true c2] at h; exact h
theorem m_crossG (hR : zRok s) {q : Nat} (hq : 183 ≤ q ∧ q < 243) {X Y w3 i o8 : Int32} (e0 : s.1 q 0 = i) (e3 : s.1 q 3 = w3) (hv : vp_in i 20) (f1 : s.1 170 i.toNatClampNeg = X) (f2 : s.1 171 i.toNatClampNeg = Y) (e8 : s.1 164 25 = o8) {K : Bool → zS → Prop} (h : K (!(decide (x = X) && decide (y = Y)) && decide (¬ o8 < apF (wayF (x - X) (y - Y)) w3)) s) : zc l g (d + 2) M_X8_isCrossed [.ref 164, .ref q, .int x, .int y] s (zKz K) := by
  have tail : ∀ {K : Bool → zS → Prop}, K (decide (¬ o8 < apF (wayF (x - X) (y - Y)) w3)) s → vp_in i 20 ∧ (vp_in i 20 ∧ (zc l g (d + 1) M_X8_wayOf [.int (x - X), .int (y - Y)] s (zKi (fun r12 s11 => s11.2.2.1 = s.2.2.1 ∧ (zc l g (d + 1) M_X8_apart [.int r12, .int (s11.1 q 3)] s11 (zKi (fun r14 s13 => s13.2.2.1 = s11.2.2.1 ∧ (if (s13.1 164 25) < r14 then K false s13 else K true s13)))))))) := by
    intro K h
    refine ⟨hv, hv, m_wayOf hR ⟨rfl, ?_⟩⟩
    rw [e3]
    generalize wayF (x - X) (y - Y) = W at h ⊢
    refine m_apart hR ?_
    refine ⟨rfl, ?_⟩
    rw [e8]
    exact tailW h
  refine t_X8_isCrossed hR hq ?_
  rw [e0, f1, f2]
  refine ⟨hv, ?_⟩
  by_cases c1 : x = X
  · rw [if_pos c1]
    refine ⟨hv, ?_⟩
    by_cases c2 : y = Y
    · rw [if_pos c2]
      rw [crP_n ⟨c1, c2⟩] at h; exact h
    · rw [if_neg c2]
      rw [crP_y (fun w => c2 w.2)] at h
      exact tail h
  · rw [if_neg c1]
    rw [crP_y (fun w => c1 w.1)] at h
    exact tail h
theorem m_isCrossed (hC : Core s) (ha : a < nK s.1) {K : Bool → zS → Prop} (h : K (crP s.1 (183 + a) x y) s) : zc l g (d + 2) M_X8_isCrossed [.ref 164, .ref (183 + a), .int x, .int y] s (zKz K) := by
  have n60 := (Core_c7 hC).2.2
  obtain ⟨f1, -⟩ := cr_f hC ha
  exact m_crossG hC.1 (q := 183 + a) ⟨by omega, by omega⟩ rfl rfl f1 rfl rfl rfl h
theorem m_isSlope (hC : Core s) (ha : a < nK s.1) {z : Int32} {K : Bool → zS → Prop} (h : K (slK s.1 (183 + a) x y z) s) : zc l g (d + 4) M_X8_isSlope [.ref 164, .int (s.1 (183 + a) 0), .int x, .int y, .int z, .int (s.1 (183 + a) 4)] s (zKz K) := by
  obtain ⟨f1, -⟩ := cr_f hC ha
  refine t_X8_isSlope hC.1 ⟨f1, f1, m_eye (d := d) hC.1 hC.2.1.1 f1 ⟨rfl, m_slopeOf (d := d + 2) hC.1 ⟨rfl, ?_⟩⟩⟩
  unfold slK at h
  by_cases c2 : s.1 164 26 < zabs (slopeF (zabs (x - s.1 170 (s.1 (183 + a) 0).toNatClampNeg) + zabs (y - s.1 171 (s.1 (183 + a) 0).toNatClampNeg)) (z - (mG s.1 (s.1 170 (s.1 (183 + a) 0).toNatClampNeg) (s.1 171 (s.1 (183 + a) 0).toNatClampNeg) + 1)) - s.1 (183 + a) 4)
  · rw [if_pos c2]; rw [decide_eq_false (fun w => w c2)] at h; exact h
  · rw [if_neg c2]; rw [decide_eq_true c2] at h; exact h
theorem m_hasHeight (hC : Core s) (ha : a < nK s.1) (hb : b < nK s.1) {K : Bool → zS → Prop} (h : K (hhL s.1 (183 + a) (183 + b) x y 256 0) s) : zc l g (d + 5) M_X8_hasHeight [.ref 164, .ref (183 + a), .ref (183 + b), .int x, .int y] s (zKz K) := by
  have n60 := (Core_c7 hC).2.2
  refine t_X8_hasHeight hC.1 (by omega) (by omega) ?_
  have key : ∀ m z, z + m = 256 → K (hhL s.1 (183 + a) (183 + b) x y m z) s → zt l g (d + 5) M_X8_hasHeight 3 [.ref 164, .ref (183 + a), .ref (183 + b), .int x, .int y, .int (nI z)] [] s (zKz K) := by
    intro m
    induction m with
    | zero =>
      intro z hz h
      refine t_X8_hasHeight_3 hC.1 (by omega) (by omega) ?_
      rw [if_pos (by rw [ti_le, nI_toInt (by omega), show (256 : Int32).toInt = 256 from rfl]; omega)]
      exact h
    | succ m ih =>
      intro z hz h
      refine t_X8_hasHeight_3 hC.1 (by omega) (by omega) ?_
      rw [if_neg (by rw [ti_le, nI_toInt (by omega), show (256 : Int32).toInt = 256 from rfl]; omega), ← nI_succ]
      unfold hhL at h
      refine m_isSlope (d := d) hC ha ⟨rfl, ?_⟩
      by_cases c1 : slK s.1 (183 + a) x y (nI z) = true
      · rw [if_pos c1]
        rw [c1, Bool.true_and] at h
        refine m_isSlope (d := d) hC hb ⟨rfl, ?_⟩
        by_cases c2 : slK s.1 (183 + b) x y (nI z) = true
        · rw [if_pos c2]; rw [if_pos c2] at h; exact h
        · rw [if_neg c2]; rw [if_neg c2] at h; exact ih (z + 1) (by omega) h
      · rw [if_neg c1]
        rw [Bool.eq_false_iff.mpr c1, Bool.false_and, if_neg (by decide)] at h
        exact ih (z + 1) (by omega) h
  exact key 256 0 (by omega) h
theorem m_cross_103 (hC : Core s) (ha : a < nK s.1) (hb : b < nK s.1) {w : Int32} (hw : bR 0 5 w = true) {K : Int32 → zS → Prop} :
    ∀ m p st, p + (m + 1) = 4096 → K (crR w (crL s.1 (183 + a) (183 + b) (m + 1) p st)) s →
    zt l g (d + 6) M_X8_cross 103 [.ref 164, zJ, zJ, .int w, .ref (183 + a), .ref (183 + b), .int (st 0), .int (st 1), .int (st 2), .int (st 3), .int (st 4), .int (st 5), .int (nI (p / 64)), .int (nI (p % 64))] [] s (zKi K) := by
  have n60 := (Core_c7 hC).2.2
  have e64 : (64 : Int32) = nI 64 := rfl
  have fin : ∀ st : Nat → Int32, K (crR w st) s → zt l g (d + 6) M_X8_cross 93 [.ref 164, zJ, zJ, .int w, .ref (183 + a), .ref (183 + b), .int (st 0), .int (st 1), .int (st 2), .int (st 3), .int (st 4), .int (st 5), .int (nI 64), zJ] [] s (zKi K) := by
    intro st h
    refine t_X8_cross_93 hC.1 (by omega) (by omega) ?_
    rw [if_pos (by decide)]
    unfold crR at h
    by_cases c0 : st 0 = 0
    · rw [if_pos c0] at h ⊢; exact h
    rw [if_neg c0] at h ⊢
    by_cases w0 : w = 0
    · rw [if_pos w0] at h ⊢; exact h
    rw [if_neg w0] at h ⊢
    by_cases w1 : w = 1
    · rw [if_pos w1] at h ⊢; exact h
    rw [if_neg w1] at h ⊢
    by_cases w2 : w = 2
    · rw [if_pos w2] at h ⊢; exact h
    rw [if_neg w2] at h ⊢
    by_cases w3 : w = 3
    · rw [if_pos w3] at h ⊢; exact h
    rw [if_neg w3] at h ⊢
    by_cases w4 : w = 4
    · rw [if_pos w4] at h ⊢; exact h
    rw [if_neg w4] at h ⊢
    have w5 : w = 5 := by
      have b5 := bR_t.mp hw
      simp only [ti_eq, til] at w0 w1 w2 w3 w4 ⊢
      omega
    rw [if_pos w5] at h; exact h
  intro m
  induction m with
  | zero =>
    intro p st hp h
    have hp2 : p = 4095 := by omega
    subst hp2
    have nx : ∀ st : Nat → Int32, K (crR w st) s → zt l g (d + 6) M_X8_cross 103 [.ref 164, zJ, zJ, .int w, .ref (183 + a), .ref (183 + b), .int (st 0), .int (st 1), .int (st 2), .int (st 3), .int (st 4), .int (st 5), .int (nI (4095 / 64)), .int (nI (4095 % 64 + 1))] [] s (zKi K) := by
      intro st h
      refine t_X8_cross_103 hC.1 (by omega) (by omega) ?_
      rw [if_pos (by decide), ← nI_succ]
      exact fin st h
    refine t_X8_cross_103 hC.1 (by omega) (by omega) ?_
    rw [if_neg (by decide), Int32.add_zero, ← nI_succ]
    unfold crL crL at h
    refine m_isCrossed (d := d + 3) hC ha ⟨rfl, ?_⟩
    by_cases c1 : crP s.1 (183 + a) (nI (4095 / 64)) (nI (4095 % 64)) = true
    rotate_left
    · rw [if_neg c1]
      rw [Bool.eq_false_iff.mpr c1, Bool.false_and, if_neg (by decide)] at h
      exact nx st h
    rw [if_pos c1]
    rw [c1, Bool.true_and] at h
    refine m_isCrossed (d := d + 3) hC hb ⟨rfl, ?_⟩
    by_cases c2 : crP s.1 (183 + b) (nI (4095 / 64)) (nI (4095 % 64)) = true
    rotate_left
    · rw [if_neg c2]
      rw [if_neg c2] at h
      exact nx st h
    rw [if_pos c2]
    rw [if_pos c2] at h
    refine m_hasHeight (d := d) hC ha hb ?_
    generalize hhL s.1 (183 + a) (183 + b) (nI (4095 / 64)) (nI (4095 % 64)) 256 0 = HB at h ⊢
    refine ⟨rfl, ?_⟩
    by_cases c3 : HB = true
    · rw [if_pos c3]; rw [c3] at h; exact nx (crS true (nI (4095 / 64)) (nI (4095 % 64)) st) h
    · rw [if_neg c3]; rw [Bool.eq_false_iff.mpr c3] at h
      have := nx (crS false (nI (4095 / 64)) (nI (4095 % 64)) st) h
      rw [show (crS false (nI (4095 / 64)) (nI (4095 % 64)) st) 1 = st 1 from Int32.add_zero _] at this
      exact this
  | succ m ih =>
    intro p st hp h
    have nx : ∀ st : Nat → Int32, K (crR w (crL s.1 (183 + a) (183 + b) (m + 1) (p + 1) st)) s → zt l g (d + 6) M_X8_cross 103 [.ref 164, zJ, zJ, .int w, .ref (183 + a), .ref (183 + b), .int (st 0), .int (st 1), .int (st 2), .int (st 3), .int (st 4), .int (st 5), .int (nI (p / 64)), .int (nI (p % 64 + 1))] [] s (zKi K) := by
      intro st h
      have i2 := ih (p + 1) st (by omega) h
      by_cases q : p % 64 = 63
      · refine t_X8_cross_103 hC.1 (by omega) (by omega) ?_
        rw [q, if_pos (by decide), ← nI_succ]
        refine t_X8_cross_93 hC.1 (by omega) (by omega) ?_
        rw [if_neg (by rw [ti_le, nI_toInt (by omega), show (64 : Int32).toInt = 64 from rfl]; omega)]
        rw [show (p + 1) / 64 = p / 64 + 1 by omega, show (p + 1) % 64 = 0 by omega] at i2
        exact i2
      · rw [show (p + 1) / 64 = p / 64 by omega, show (p + 1) % 64 = p % 64 + 1 by omega] at i2
        exact i2
    refine t_X8_cross_103 hC.1 (by omega) (by omega) ?_
    rw [if_neg (by rw [ti_le, nI_toInt (by omega), show (64 : Int32).toInt = 64 from rfl]; omega), Int32.add_zero, ← nI_succ]
    unfold crL at h
    refine m_isCrossed (d := d + 3) hC ha ⟨rfl, ?_⟩
    by_cases c1 : crP s.1 (183 + a) (nI (p / 64)) (nI (p % 64)) = true
    rotate_left
    · rw [if_neg c1]
      rw [Bool.eq_false_iff.mpr c1, Bool.false_and, if_neg (by decide)] at h
      exact nx st h
    rw [if_pos c1]
    rw [c1, Bool.true_and] at h
    refine m_isCrossed (d := d + 3) hC hb ⟨rfl, ?_⟩
    by_cases c2 : crP s.1 (183 + b) (nI (p / 64)) (nI (p % 64)) = true
    rotate_left
    · rw [if_neg c2]
      rw [if_neg c2] at h
      exact nx st h
    rw [if_pos c2]
    rw [if_pos c2] at h
    refine m_hasHeight (d := d) hC ha hb ?_
    generalize hhL s.1 (183 + a) (183 + b) (nI (p / 64)) (nI (p % 64)) 256 0 = HB at h ⊢
    refine ⟨rfl, ?_⟩
    by_cases c3 : HB = true
    · rw [if_pos c3]; rw [c3] at h; exact nx (crS true (nI (p / 64)) (nI (p % 64)) st) h
    · rw [if_neg c3]; rw [Bool.eq_false_iff.mpr c3] at h
      have := nx (crS false (nI (p / 64)) (nI (p % 64)) st) h
      rw [show (crS false (nI (p / 64)) (nI (p % 64)) st) 1 = st 1 from Int32.add_zero _] at this
      exact this
end RX2
