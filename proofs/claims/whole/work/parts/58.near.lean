/-! ===== nearness of a way and a slope ===== -/
def apF (a b : Int32) : Int32 := zmin (zabs (a - b)) (256 - zabs (a - b))
/-- within the margins -/
def nrF (I : zM2) (wy sl a b : Int32) : Bool := decide (¬ I 164 25 < apF wy a) && decide (¬ I 164 26 < zabs (sl - b))
section NR
variable {l : Launch} {g : zG} {d : Nat} {s : zS} {a b : Int32}
theorem c_apart (hR : zRok s) {K : Int32 → zS → Prop} (h : K (apF a b) s) : zc l g (d + 1) M_X7_apart [.int a, .int b] s (zKi K) := t_X7_apart hR h
theorem m_apart (hR : zRok s) {K : Int32 → zS → Prop} (h : K (apF a b) s) : zc l g (d + 1) M_X8_apart [.int a, .int b] s (zKi K) := t_X8_apart hR h
theorem c_isNear (hR : zRok s) {K : Bool → zS → Prop} (hO : RelO s.1) (h : K (nrF s.1 (s.1 68 1) (s.1 68 2) a b) s) : zc l g (d + 2) M_X7_isNear [.ref 64, .int a, .int b] s (zKz K) := by
  refine t_X7_isNear hR (c_apart hR ⟨rfl, ?_⟩)
  rw [hO.1, hO.2.1]
  unfold nrF at h
  by_cases c1 : s.1 164 25 < apF (s.1 68 1) a
  · rw [if_pos c1]
    rw [decide_eq_false (fun w => w c1), Bool.false_and] at h
    exact h
  · rw [if_neg c1]
    rw [decide_eq_true c1, Bool.true_and] at h
    by_cases c2 : s.1 164 26 < zabs (s.1 68 2 - b)
    · rw [if_pos c2]
      rw [decide_eq_false (fun w => w c2)] at h
      exact h
    · rw [if_neg c2]
      rw [decide_eq_true c2] at h
      exact h
end NR
