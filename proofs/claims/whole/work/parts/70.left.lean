/-! ===== left: both sides ===== -/
def leftL (I : zM2) (k : Int32) : Nat → Nat → Int32 → Int32
  | 0, _, c => if k = -1 then c else -1
  | m + 1, i, c => if fitF I i = 0 then (if c = k then nI i else leftL I k m (i + 1) (c + 1)) else leftL I k m (i + 1) c
section OLE
variable {l : Launch} {g : zG} {d : Nat} {s0 : zS} {k : Int32} {K : Int32 → zS → Prop}
theorem c_left_4 {r0 : Int32} (hK : ∀ s', zE fS s0 s' → Core s' → K r0 s') : ∀ m i c s, i + m = nK s0.1 → zE fS s0 s → Core s → leftL s0.1 k m i c = r0 → zt l g (d + 7) M_X7_left 4 [.ref 64, .int k, .int c, .int (nI i)] [] s (zKi K) := by
  intro m
  induction m with
  | zero =>
    intro i c s hi hE hC he
    obtain ⟨e7, -, n60⟩ := Core_c7 hC
    have n := (nK_g okS_f.2 hE).1
    refine t_X7_left_4 hC.1 ?_
    rw [e7, if_pos (nI_le (by omega) (by omega))]
    unfold leftL at he
    by_cases w : k = -1
    · rw [if_pos w] at he ⊢; rw [he]; exact hK _ hE hC
    · rw [if_neg w] at he ⊢; rw [he]; exact hK _ hE hC
  | succ m ih =>
    intro i c s hi hE hC he
    obtain ⟨e7, -, n60⟩ := Core_c7 hC
    have n := (nK_g okS_f.2 hE).1
    refine t_X7_left_4 hC.1 ?_
    rw [e7, if_neg (nI_ge (by omega) (by omega)), ← nI_succ, nI_clamp (by omega)]
    refine ⟨vp_in_nI (by omega) (by decide), c_fitG (d := d) okS_f hE hC (by omega) (fun s1 hE1 hE2 hC2 => ⟨zE_R hE1, ?_⟩)⟩
    unfold leftL at he
    by_cases c1 : fitF s0.1 i = 0
    · rw [if_pos c1] at he ⊢
      by_cases c2 : c = k
      · rw [if_pos c2] at he ⊢; rw [he]; exact hK _ hE2 hC2
      · rw [if_neg c2] at he ⊢; exact ih (i + 1) _ s1 (by omega) hE2 hC2 he
    · rw [if_neg c1] at he ⊢; exact ih (i + 1) _ s1 (by omega) hE2 hC2 he
theorem m_left_4 {r0 : Int32} (hK : ∀ s', zE fS s0 s' → Core s' → K r0 s') : ∀ m i c s, i + m = nK s0.1 → zE fS s0 s → Core s → leftL s0.1 k m i c = r0 → zt l g (d + 8) M_X8_left 4 [.ref 164, .int k, .int c, .int (nI i)] [] s (zKi K) := by
  intro m
  induction m with
  | zero =>
    intro i c s hi hE hC he
    obtain ⟨-, e7, n60⟩ := Core_c7 hC
    have n := (nK_g okS_f.2 hE).1
    refine t_X8_left_4 hC.1 ?_
    rw [e7, if_pos (nI_le (by omega) (by omega))]
    unfold leftL at he
    by_cases w : k = -1
    · rw [if_pos w] at he ⊢; rw [he]; exact hK _ hE hC
    · rw [if_neg w] at he ⊢; rw [he]; exact hK _ hE hC
  | succ m ih =>
    intro i c s hi hE hC he
    obtain ⟨-, e7, n60⟩ := Core_c7 hC
    have n := (nK_g okS_f.2 hE).1
    refine t_X8_left_4 hC.1 ?_
    rw [e7, if_neg (nI_ge (by omega) (by omega)), ← nI_succ]
    refine m_fitG (d := d) okS_f hE hC (vp_in_nI (by omega) (by decide)) (nI_clamp (by omega)) (by omega) (fun s1 hE1 hE2 hC2 => ⟨zE_R hE1, ?_⟩)
    unfold leftL at he
    by_cases c1 : fitF s0.1 i = 0
    · rw [if_pos c1] at he ⊢
      by_cases c2 : c = k
      · rw [if_pos c2] at he ⊢; rw [he]; exact hK _ hE2 hC2
      · rw [if_neg c2] at he ⊢; exact ih (i + 1) _ s1 (by omega) hE2 hC2 he
    · rw [if_neg c1] at he ⊢; exact ih (i + 1) _ s1 (by omega) hE2 hC2 he
end OLE
section OLE2
variable {l : Launch} {g : zG} {d : Nat} {s : zS} {k : Int32}
theorem op_left {Q : zS → Prop} (hC : Core s) (h1 : ∀ s', zE fS s s' → Core s' → Q s') :
    zc l g (d + 8) M_X7_left [.ref 64, .int k] s (zKi fun r s5 => zc l g (d + 8) M_X8_left [.ref 164, .int k] s5 (zKi fun r' s10 => r = r' ∧ Q s10)) := by
  refine t_X7_left hC.1 (c_left_4 (s0 := s) (d := d + 1) ?_ (nK s.1) 0 0 s (by omega) zE_r hC rfl)
  intro s1 hE hC1
  have en := (nK_g okS_f.2 hE).1
  have el : ∀ m i c, i + m = nK s.1 → leftL s1.1 k m i c = leftL s.1 k m i c := by
    intro m
    have n60 := (Core_c7 hC).2.2
    induction m with
    | zero => intro i c _; rfl
    | succ m ih =>
      intro i c hi
      unfold leftL
      rw [fitF_c (eqM_g okS_f.2 hE) (by omega), ih _ _ (by omega), ih _ _ (by omega)]
  refine t_X8_left hC1.1 (m_left_4 (s0 := s1) (d := d) ?_ (nK s1.1) 0 0 s1 (by omega) zE_r hC1 rfl)
  intro s2 hE2 hC2
  rw [en, el _ _ _ (by omega)]
  exact ⟨rfl, h1 s2 (zE_t hE hE2) hC2⟩
end OLE2
