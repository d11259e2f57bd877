/-! ===== hulls: both sides ===== -/
def hullL (I : zM2) (a w : Int32) : Nat → Nat → Int32 → Int32
  | 0, _, c => c
  | m + 1, i, c => if I (183 + i) 7 < a then hullL I a w m (i + 1) c else if fitF I i = 0 then hullL I a w m (i + 1) c else if I (183 + i) 8 < w then hullL I a w m (i + 1) c else hullL I a w m (i + 1) (c + 1)
section OHU
variable {l : Launch} {g : zG} {d : Nat} {s0 : zS} {a w : Int32} {K : Int32 → zS → Prop}
theorem c_hulls_23 {r0 : Int32} (hK : ∀ s', zE fS s0 s' → Core s' → K r0 s') : ∀ m i c s, i + m = nK s0.1 → zE fS s0 s → Core s → hullL s0.1 a w m i c = r0 → zt l g (d + 7) M_X7_hulls 23 [.ref 64, .int a, .int w, .int c, .int (nI i), zJ] [] s (zKi K) := by
  intro m
  induction m with
  | zero =>
    intro i c s hi hE hC he
    obtain ⟨e7, -, n60⟩ := Core_c7 hC
    have n := (nK_g okS_f.2 hE).1
    refine t_X7_hulls_23 hC.1 ?_
    rw [e7, if_pos (nI_le (by omega) (by omega))]
    rw [show c = r0 from he]; exact hK _ hE hC
  | succ m ih =>
    intro i c s hi hE hC he
    obtain ⟨e7, -, n60⟩ := Core_c7 hC
    have n := (nK_g okS_f.2 hE).1
    refine t_X7_hulls_23 hC.1 ?_
    rw [e7, if_neg (nI_ge (by omega) (by omega)), ← nI_succ, nI_clamp (by omega)]
    refine ⟨vp_in_nI (by omega) (by decide), ?_⟩
    rw [rowc_g okS_f.2 hE hC (show i < nK s0.1 by omega) (by decide), rowc_g okS_f.2 hE hC (show i < nK s0.1 by omega) (by decide)]
    unfold hullL at he
    by_cases c1 : s0.1 (183 + i) 7 < a
    · rw [if_pos c1] at he ⊢; exact ih (i + 1) _ s (by omega) hE hC he
    rw [if_neg c1] at he ⊢
    by_cases c2 : s0.1 (183 + i) 8 < w
    · rw [if_pos c2] at he ⊢
      refine ih (i + 1) _ s (by omega) hE hC ?_
      by_cases c3 : fitF s0.1 i = 0
      · rw [if_pos c3] at he; exact he
      · rw [if_neg c3] at he; exact he
    rw [if_neg c2] at he ⊢
    refine c_fitG (d := d) okS_f hE hC (by omega) (fun s1 hE1 hE2 hC2 => ⟨zE_R hE1, ?_⟩)
    by_cases c3 : fitF s0.1 i = 0
    · rw [if_pos c3] at he ⊢; exact ih (i + 1) _ s1 (by omega) hE2 hC2 he
    · rw [if_neg c3] at he ⊢; exact ih (i + 1) _ s1 (by omega) hE2 hC2 he
theorem m_hulls_29 (hw : bR 0 1 w = true) {r0 : Int32} (hK : ∀ s', zE fS s0 s' → Core s' → K r0 s') : ∀ m i c s, i + m = nK s0.1 → zE fS s0 s → Core s → hullL s0.1 a w m i c = r0 → zt l g (d + 8) M_X8_hulls 29 [.ref 164, .int a, .int w, .int c, .int (nI i)] [] s (zKi K) := by
  intro m
  induction m with
  | zero =>
    intro i c s hi hE hC he
    obtain ⟨-, e7, n60⟩ := Core_c7 hC
    have n := (nK_g okS_f.2 hE).1
    refine t_X8_hulls_29 hC.1 ?_
    rw [e7, if_pos (nI_le (by omega) (by omega))]
    rw [show c = r0 from he]; exact hK _ hE hC
  | succ m ih =>
    intro i c s hi hE hC he
    obtain ⟨-, e7, n60⟩ := Core_c7 hC
    have n := (nK_g okS_f.2 hE).1
    have hv : vp_in (nI i) 60 := vp_in_nI (by omega) (by decide)
    refine t_X8_hulls_29 hC.1 ?_
    rw [e7, if_neg (nI_ge (by omega) (by omega)), ← nI_succ, nI_clamp (by omega), Int32.add_zero]
    refine ⟨hv, ?_⟩
    rw [row_g okS_f.2 hE (show i < 60 by omega)]
    unfold hullL at he
    by_cases c1 : s0.1 (183 + i) 7 < a
    · rw [if_pos c1] at he ⊢; exact ih (i + 1) _ s (by omega) hE hC he
    rw [if_neg c1] at he ⊢
    refine m_fitG (d := d) okS_f hE hC hv (nI_clamp (by omega)) (by omega) (fun s1 hE1 hE2 hC2 => ⟨zE_R hE1, ?_⟩)
    by_cases c3 : fitF s0.1 i = 0
    · rw [if_pos c3] at he ⊢; exact ih (i + 1) _ s1 (by omega) hE2 hC2 he
    rw [if_neg c3] at he ⊢
    have l8 := (hC.2.2.2.2.2.1.2.2 i (by omega)).2.2.2.2.2.2.2.2.2.2
    rw [row_g okS_f.2 hE (show i < 60 by omega)] at l8
    have b8 := bR_t.mp l8
    have bw := bR_t.mp hw
    rw [row_g okS_f.2 hE2 (show i < 60 by omega)]
    by_cases c4 : w = 0
    · rw [if_pos c4]
      rw [c4, if_neg (by rw [ti_lt, til.1]; omega)] at he
      subst c4
      exact ih (i + 1) _ s1 (by omega) hE2 hC2 he
    rw [if_neg c4]
    have cw : w.toInt = 1 := by
      have : ¬ w.toInt = 0 := fun e => c4 (i32_e e)
      omega
    refine ⟨hv, ?_⟩
    by_cases c5 : s0.1 (183 + i) 8 = 1
    · rw [if_pos c5]
      rw [if_neg (by rw [c5, ti_lt, cw]; decide)] at he
      exact ih (i + 1) _ s1 (by omega) hE2 hC2 he
    · rw [if_neg c5]
      have : ¬ (s0.1 (183 + i) 8).toInt = 1 := fun e => c5 (ti_eq.mpr e)
      rw [if_pos (by rw [ti_lt, cw]; omega)] at he
      exact ih (i + 1) _ s1 (by omega) hE2 hC2 he
end OHU
section OHU2
variable {l : Launch} {g : zG} {d : Nat} {s : zS} {a w : Int32}
theorem op_hulls {Q : zS → Prop} (hC : Core s) (h1 : ∀ s', zE fS s s' → Core s' → Q s') :
    zc l g (d + 8) M_X7_hulls [.ref 64, .int a, .int w] s (zKi fun r s5 => zc l g (d + 8) M_X8_hulls [.ref 164, .int a, .int w] s5 (zKi fun r' s10 => r = r' ∧ Q s10)) := by
  have e1 : zinr a.toInt64 1 9 = bR 1 9 a := zq1 rfl rfl
  have e2 : zinr w.toInt64 0 1 = bR 0 1 w := zq1 rfl rfl
  have rej : ¬ (bR 1 9 a = true ∧ bR 0 1 w = true) → zc l g (d + 8) M_X8_hulls [.ref 164, .int a, .int w] s (zKi fun r' s10 => (-1 : Int32) = r' ∧ Q s10) := by
    intro q
    refine t_X8_hulls hC.1 ?_
    rw [e1, e2]
    by_cases c1 : bR 1 9 a = true
    · rw [if_pos c1, if_neg (fun c2 => q ⟨c1, c2⟩)]; exact ⟨rfl, h1 s zE_r hC⟩
    · rw [if_neg c1]; exact ⟨rfl, h1 s zE_r hC⟩
  refine t_X7_hulls hC.1 (c_isLights hC.1 ⟨rfl, ?_⟩)
  by_cases a1 : bR 1 9 a = true
  rotate_left
  · rw [if_neg a1]; exact rej (fun q => a1 q.1)
  rw [if_pos a1]
  by_cases a2 : bR 0 1 w = true
  rotate_left
  · have r0 := rej (fun q => a2 q.2)
    rw [bR_t] at a2
    simp only [ti_lt, ti_le, til]
    by_cases u : w.toInt < 0
    · rw [if_pos u]; exact r0
    · rw [if_neg u, if_neg (by omega)]; exact r0
  have b2 := bR_t.mp a2
  rw [if_neg (by rw [ti_lt, til.1]; omega), if_pos (by rw [ti_le]; simp only [til]; omega)]
  refine c_hulls_23 (s0 := s) (d := d + 1) ?_ (nK s.1) 0 0 s (by omega) zE_r hC rfl
  intro s1 hE hC1
  refine t_X8_hulls hC1.1 ?_
  rw [e1, e2, if_pos a1, if_pos a2]
  refine m_hulls_29 (s0 := s) (d := d) a2 ?_ (nK s.1) 0 0 s1 (by omega) hE hC1 rfl
  intro s2 hE2 hC2
  exact ⟨rfl, h1 s2 hE2 hC2⟩
end OHU2
