/-! ===== what can be, on the reference's side; seers and ground ===== -/
theorem bzN {x y : Int32} {o : Int64} (ho : o.toInt = 0) (hy : -2147483647 ≤ y.toInt) : zinr x.toInt64 o (y - 1).toInt64 = bR 0 (y.toInt - 1) x := by
  have e : (1 : Int32).toInt = 1 := rfl
  have hr := ti_rng y
  rw [bR_z2, ho, ti_sub (by omega) (by omega), e]
theorem bS_q {m : Int32} (q : 0 ≤ m.toInt) : bSpan m = (bR 0 239 (m / 1000) && (bR 0 239 (m % 1000) && decide ((m / 1000).toInt ≤ (m % 1000).toInt))) := by
  have := ti_rng m
  rw [bSpan, show bR 0 2147483647 m = true from bR_t.mpr (by omega), Bool.true_and, Bool.and_assoc]
section VM
variable {l : Launch} {g : zG} {d : Nat} {s : zS} {p p' : Int32} {K : Bool → zS → Prop}
theorem m_isPlace (hR : zRok s) (h : K (bR 0 4095 p) s) : zc l g (d + 1) M_X8_isPlace [.int p] s (zKz K) :=
  t_X8_isPlace hR (by rw [show zinr p.toInt64 0 4095 = bR 0 4095 p from bR_z]; exact h)
theorem m_isMinute (hR : zRok s) (h : K (bR 0 239 p) s) : zc l g (d + 1) M_X8_isMinute [.int p] s (zKz K) :=
  t_X8_isMinute hR (by rw [show zinr p.toInt64 0 239 = bR 0 239 p from bR_z]; exact h)
theorem m_isView (hR : zRok s) (h : K (bR 0 255999 p) s) : zc l g (d + 1) M_X8_isView [.int p] s (zKz K) :=
  t_X8_isView hR (by rw [show zinr p.toInt64 0 255999 = bR 0 255999 p from bR_z]; exact h)
theorem m_areLater (hR : zRok s) (h : K (bR 0 99 p && bR 0 99 p') s) : zc l g (d + 1) M_X8_areLater [.int p, .int p'] s (zKz K) := by
  refine t_X8_areLater hR ?_
  rw [show zinr p.toInt64 0 99 = bR 0 99 p from bR_z, show zinr p'.toInt64 0 99 = bR 0 99 p' from bR_z]
  by_cases q1 : bR 0 99 p = true
  · rw [if_pos q1]
    by_cases q2 : bR 0 99 p' = true
    · rw [if_pos q2]; rw [q1, q2] at h; exact h
    · rw [if_neg q2]; rw [bF q2, Bool.and_false] at h; exact h
  · rw [if_neg q1]; rw [bF q1, Bool.false_and] at h; exact h
theorem m_areMinutes (hR : zRok s) (h : K (bSpan p) s) : zc l g (d + 2) M_X8_areMinutes [.int p] s (zKz K) := by
  refine t_X8_areMinutes hR ?_
  by_cases q : 0 ≤ p.toInt
  · rw [if_neg (by rw [ti_lt, til.1]; omega)]
    rw [bS_q q] at h
    refine m_isMinute hR ⟨rfl, ?_⟩
    by_cases q1 : bR 0 239 (p / 1000) = true
    · rw [if_pos q1]; rw [q1, Bool.true_and] at h
      refine m_isMinute hR ⟨rfl, ?_⟩
      by_cases q2 : bR 0 239 (p % 1000) = true
      · rw [if_pos q2]; rw [q2, Bool.true_and] at h
        by_cases q3 : p % 1000 < p / 1000
        · rw [if_pos q3]; rw [ti_lt] at q3; rw [decide_eq_false (by omega)] at h; exact h
        · rw [if_neg q3]; rw [ti_lt] at q3; rw [decide_eq_true (by omega)] at h; exact h
      · rw [if_neg q2]; rw [bF q2, Bool.false_and] at h; exact h
    · rw [if_neg q1]; rw [bF q1, Bool.false_and] at h; exact h
  · rw [if_pos (by rw [ti_lt, til.1]; omega)]
    rwa [show bSpan p = false by rw [Bool.eq_false_iff]; simp only [bSpan, ne_eq, Bool.and_eq_true, decide_eq_true_eq, bR_t]; omega] at h
theorem c_isSeer (hR : zRok s) (hn : 0 ≤ (s.1 64 3).toInt) (h : K (bR 0 ((s.1 64 3).toInt - 1) p) s) : zc l g d M_X7_isSeer [.ref 64, .int p] s (zKz K) :=
  t_X7_isSeer hR (if2 (by simp only [bR_t, ti_lt, ti_le, til]; omega) h)
theorem c_isThing (hR : zRok s) (hn : 0 ≤ (s.1 64 5).toInt) (h : K (bR 0 ((s.1 64 5).toInt - 1) p) s) : zc l g d M_X7_isThing [.ref 64, .int p] s (zKz K) :=
  t_X7_isThing hR (if2 (by simp only [bR_t, ti_lt, ti_le, til]; omega) h)
theorem c_isTelling (hR : zRok s) (hn : 0 ≤ (s.1 64 7).toInt) (h : K (bR 0 ((s.1 64 7).toInt - 1) p) s) : zc l g d M_X7_isTelling [.ref 64, .int p] s (zKz K) :=
  t_X7_isTelling hR (if2 (by simp only [bR_t, ti_lt, ti_le, til]; omega) h)
theorem m_isSeer (hR : zRok s) (hn : 0 ≤ (s.1 164 18).toInt) (h : K (bR 0 ((s.1 164 18).toInt - 1) p) s) : zc l g (d + 1) M_X8_isSeer [.ref 164, .int p] s (zKz K) :=
  t_X8_isSeer hR (by rw [bzN rfl (by omega)]; exact h)
theorem m_isThing (hR : zRok s) (hn : 0 ≤ (s.1 164 19).toInt) (h : K (bR 0 ((s.1 164 19).toInt - 1) p) s) : zc l g (d + 1) M_X8_isThing [.ref 164, .int p] s (zKz K) :=
  t_X8_isThing hR (by rw [bzN rfl (by omega)]; exact h)
theorem m_isTelling (hR : zRok s) (hn : 0 ≤ (s.1 164 24).toInt) (h : K (bR 0 ((s.1 164 24).toInt - 1) p) s) : zc l g (d + 1) M_X8_isTelling [.ref 164, .int p] s (zKz K) :=
  t_X8_isTelling hR (by rw [bzN rfl (by omega)]; exact h)
end VM
/-- seers: where they stand -/
def nS (I : zM2) : Nat := (I 164 18).toNatClampNeg
def RelS (I : zM2) : Prop :=
  RN I 164 18 20 ∧ I 64 3 = I 164 18 ∧ ∀ i, i < nS I → bR 0 4095 (I 69 i) = true ∧ I 170 i = I 69 i / 64 ∧ I 171 i = I 69 i % 64
def seerS : Nat → Nat → Prop := fun o k => (o = 64 ∧ k = 3) ∨ o = 69 ∨ o = 170 ∨ o = 171 ∨ (o = 164 ∧ k = 18)
