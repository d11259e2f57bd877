/-! ===== the class's fitting, kept ===== -/
theorem eqM_cf {s s' : zS} {o : Nat} (ho : 104 ≤ o) (ho2 : o < 164) (h : zE (cfS o) s s') : eqM s.1 s'.1 := by
  intro p j hp
  refine h.2 p j ?_
  unfold mS at hp
  unfold cfS
  omega
theorem RelF_keep {I I' : zM2} {k : Nat} (hk60 : nK I ≤ 60) (hF : RelF I) (hM : eqM I I') (h10 : I' 64 10 = I 64 10) (ho : ∀ q, q < 60 → ¬ q = k → ∀ j, I' (104 + q) j = I (104 + q) j)
    (hk : (I' (104 + k) 10 = I (104 + k) 10 ∧ I' (104 + k) 9 = I (104 + k) 9) ∨ (I' (104 + k) 10 = I 64 10 ∧ I' (104 + k) 9 = fitF I k)) : RelF I' := by
  have en : nK I' = nK I := by unfold nK; rw [hM 164 24 (by simp [mS])]
  refine ⟨by rw [h10]; exact hF.1, ?_⟩
  intro q hq
  rw [en] at hq
  have hq60 : q < 60 := by omega
  have old := hF.2 q hq
  rw [h10, fitF_c hM hq60]
  by_cases w : q = k
  · subst w
    rcases hk with ⟨a, b⟩ | ⟨a, b⟩
    · rw [a, b]; exact old
    · rw [a, b]
      have := hF.1
      exact ⟨by omega, Int.le_refl _, fun _ => rfl⟩
  · rw [ho q hq60 w, ho q hq60 w]; exact old
section CF2
variable {l : Launch} {g : zG} {d : Nat} {s : zS} {k : Nat} {K : Int32 → zS → Prop}
theorem c_fittingOf (hR : zRok s) (hH : RelH s.1) (hO : RelO s.1) (hT : RelT s.1) (hS : RelS s.1) (hL : RelL s.1) (hF : RelF s.1) (hk : k < nK s.1)
    (h : ∀ s', zE (cfS (104 + k)) s s' → RelF s'.1 → K (fitF s.1 k) s') : zc l g (d + 6) M_X7_fittingOf [.ref 64, .ref (104 + k)] s (zKi K) := by
  have n60 : nK s.1 ≤ 60 := RN_l hL.1
  have hb : 104 ≤ 104 + k ∧ 104 + k < 164 := by omega
  refine t_X7_fittingOf hR hb ?_
  by_cases c : s.1 (104 + k) 10 = s.1 64 10
  · rw [if_pos c, (hF.2 k hk).2.2 c]
    exact h s zE_r hF
  rw [if_neg c]
  refine c_fit_15 hR hH hO hT hS hL hk ?_ (nT s.1) 0 (by omega) s zE_r
  intro s' hE
  have z : zE (cfS (104 + k)) s (zI (zI s' (104 + k) 9 (fitF s.1 k)) (104 + k) 10 (s.1 64 10)) :=
    zE_i (zE_i (zE_m (T := cfS (104 + k)) hE (fun o j w => Or.inl w)) (Or.inr ⟨rfl, Or.inl rfl⟩)) (Or.inr ⟨rfl, Or.inr rfl⟩)
  refine h _ z (RelF_keep (k := k) n60 hF (eqM_cf hb.1 hb.2 z) ?_ ?_ (Or.inr ⟨by rw [zI_eq], by rw [zI_k (by decide), zI_eq]⟩))
  · exact z.2 64 10 (by unfold cfS; omega)
  · intro q hq hne j
    exact z.2 _ j (by unfold cfS; omega)
end CF2
