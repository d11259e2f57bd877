/-! ===== all that a fitting leans on, and what it leaves ===== -/
def Core (s : zS) : Prop := zRok s ∧ RelH s.1 ∧ RelO s.1 ∧ RelT s.1 ∧ RelS s.1 ∧ RelL s.1 ∧ RelF s.1
/-- scratch of fittings on both sides -/
def fS : Nat → Nat → Prop := fun o j => o = 68 ∨ (104 ≤ o ∧ o < 164 ∧ (j = 9 ∨ j = 10)) ∨ (o = 164 ∧ (j = 20 ∨ j = 21 ∨ j = 22))
theorem eqM_f {s s' : zS} (h : zE fS s s') : eqM s.1 s'.1 := by
  intro p j hp
  refine h.2 p j ?_
  unfold mS at hp
  unfold fS
  omega
theorem RelO_c {I I' : zM2} (h1 : I' 64 8 = I 64 8) (h2 : I' 64 9 = I 64 9) (h3 : I' 164 25 = I 164 25) (h4 : I' 164 26 = I 164 26) (h : RelO I) : RelO I' := by
  unfold RelO RN at *
  rw [h1, h2, h3, h4]; exact h
/-- a change that leaves all but RelF to be seen to -/
theorem Core_k {S : Nat → Nat → Prop} {s s' : zS} (h : zE S s s') (hS : ∀ o j, S o j → (o = 68 ∨ (104 ≤ o ∧ o < 164 ∧ 9 ≤ j) ∨ (o = 164 ∧ (j = 20 ∨ j = 21 ∨ j = 22)) ∨ o = 72 ∨ o = 73 ∨ o = 74 ∨ o = 91 ∨ o = 243 ∨ o = 260 ∨ o = 261 ∨ (o = 64 ∧ j = 18) ∨ o = 84 ∨ o = 90 ∨ o = 75 ∧ ¬ j = 1 ∨ o = 77 ∨ o = 78)) (hC : Core s) (hF : RelF s'.1) : Core s' := by
  obtain ⟨a, b, c, e, f, u, -⟩ := hC
  have q : ∀ o j, ¬ (o = 68 ∨ (104 ≤ o ∧ o < 164 ∧ 9 ≤ j) ∨ (o = 164 ∧ (j = 20 ∨ j = 21 ∨ j = 22)) ∨ o = 72 ∨ o = 73 ∨ o = 74 ∨ o = 91 ∨ o = 243 ∨ o = 260 ∨ o = 261 ∨ (o = 64 ∧ j = 18) ∨ o = 84 ∨ o = 90 ∨ o = 75 ∧ ¬ j = 1 ∨ o = 77 ∨ o = 78) → s'.1 o j = s.1 o j := fun o j w => h.2 o j (fun z => w (hS o j z))
  refine ⟨zE_K h a, RelH_c (fun o x y k => q o k (by omega)) (q _ _ (by omega)) (q _ _ (by omega)) (q _ _ (by omega)) (fun k => q _ _ (by omega)) (fun k => q _ _ (by omega)) b,
    RelO_c (q _ _ (by omega)) (q _ _ (by omega)) (q _ _ (by omega)) (q _ _ (by omega)) c,
    RelT_c (fun o x y k => q o k (by omega)) (fun o x y k => q o k (by omega)) (q _ _ (by omega)) (q _ _ (by omega)) e,
    RelS_c (q _ _ (by omega)) (q _ _ (by omega)) (fun k => q _ _ (by omega)) (fun k => q _ _ (by omega)) (fun k => q _ _ (by omega)) f,
    RelL_c (fun o x y k hk => q o k (by omega)) (fun o x y k => q o k (by omega)) (q _ _ (by omega)) (q _ _ (by omega)) (by rw [q 164 18 (by omega)]; exact Int.le_refl _) u, hF⟩
theorem RelF_k {I I' : zM2} (hL : RelL I) (hM : eqM I I') (h10 : I' 64 10 = I 64 10) (ho : ∀ q, q < 60 → I' (104 + q) 9 = I (104 + q) 9 ∧ I' (104 + q) 10 = I (104 + q) 10) (hF : RelF I) : RelF I' := by
  have n60 : nK I ≤ 60 := RN_l hL.1
  have en : nK I' = nK I := by unfold nK; rw [hM 164 24 (by simp [mS])]
  refine ⟨by rw [h10]; exact hF.1, ?_⟩
  intro q hq
  rw [en] at hq
  rw [h10, fitF_c hM (by omega), (ho q (by omega)).1, (ho q (by omega)).2]
  exact hF.2 q hq
section CR
variable {l : Launch} {g : zG} {d : Nat} {s : zS} {k : Nat} {p : Int32} {K : Int32 → zS → Prop}
theorem c_fit (hC : Core s) (hk : k < nK s.1) (h : ∀ s', zE fS s s' → Core s' → K (fitF s.1 k) s') : zc l g (d + 6) M_X7_fittingOf [.ref 64, .ref (104 + k)] s (zKi K) := by
  have n60 : nK s.1 ≤ 60 := RN_l hC.2.2.2.2.2.1.1
  refine c_fittingOf hC.1 hC.2.1 hC.2.2.1 hC.2.2.2.1 hC.2.2.2.2.1 hC.2.2.2.2.2.1 hC.2.2.2.2.2.2 hk ?_
  intro s' hE hF
  have z : zE fS s s' := zE_m hE (fun o j w => by unfold cfS at w; unfold fS; omega)
  exact h s' z (Core_k z (fun o j w => by unfold fS at w; omega) hC hF)
theorem m_fit (hC : Core s) (hv : vp_in p 60) (hk : p.toNatClampNeg < nK s.1) (h : ∀ s', zE fS s s' → Core s' → K (fitF s.1 p.toNatClampNeg) s') : zc l g (d + 7) M_X8_fitting [.ref 164, .int p] s (zKi K) := by
  have n60 : nK s.1 ≤ 60 := RN_l hC.2.2.2.2.2.1.1
  refine m_fitting hC.1 hC.2.1 hC.2.2.2.1 hC.2.2.2.2.1 hC.2.2.2.2.2.1 hv hk ?_
  intro s' hE
  have z : zE fS s s' := zE_m hE (fun o j w => by unfold atS at w; unfold fS; omega)
  refine h s' z (Core_k z (fun o j w => by unfold fS at w; omega) hC (RelF_k hC.2.2.2.2.2.1 (eqM_f z) ?_ ?_ hC.2.2.2.2.2.2))
  · exact hE.2 64 10 (by unfold atS; omega)
  · intro q hq
    exact ⟨hE.2 _ _ (by unfold atS; omega), hE.2 _ _ (by unfold atS; omega)⟩
end CR
