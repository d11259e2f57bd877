/-! ===== the reference's fitting ===== -/
section MF
variable {l : Launch} {g : zG} {d : Nat} {s0 : zS} {p : Int32} {K : Int32 → zS → Prop}
theorem m_fitting_4 (hR : zRok s0) (hH : RelH s0.1) (hT : RelT s0.1) (hS : RelS s0.1) (hL : RelL s0.1) (hv : vp_in p 60) (hk : p.toNatClampNeg < nK s0.1) (h : ∀ s', zE atS s0 s' → K (fitF s0.1 p.toNatClampNeg) s') :
    ∀ m t, t + m = nT s0.1 → ∀ s, zE atS s0 s → zt l g (d + 7) M_X8_fitting 4 [.ref 164, .int p, .int (fitN s0.1 p.toNatClampNeg t), .int (nI t)] [] s (zKi K) := by
  have n12 : nT s0.1 ≤ 12 := RN_l hT.1
  have k60 : p.toNatClampNeg < 60 := by have := RN_l hL.1; unfold nK at hk; omega
  have hl := hL.2.2 _ hk
  have hob : 183 ≤ 183 + p.toNatClampNeg ∧ 183 + p.toNatClampNeg < 243 := by omega
  obtain ⟨-, hw⟩ := seN hS hl.2.1
  intro m
  induction m with
  | zero =>
    intro t ht s hE
    refine t_X8_fitting_4 (zE_K hE hR) ?_
    rw [show s.1 164 19 = nI (nT s0.1) by rw [hE.2 164 19 (by simp [atS])]; exact RN_n hT.1, if_pos (nI_le (by omega) (by omega))]
    rw [show t = nT s0.1 by omega]
    exact h s hE
  | succ m ih =>
    intro t ht s hE
    have hR' := zE_K hE hR
    have eo : ∀ {s'}, zE atS s0 s' → ∀ j, s'.1 (183 + p.toNatClampNeg) j = s0.1 (183 + p.toNatClampNeg) j := fun z j => z.2 _ j (by unfold atS; omega)
    have hvt : vp_in (nI t) 12 := vp_in_nI (by omega) (by decide)
    have ct : (nI t).toNatClampNeg = t := nI_clamp (by omega)
    have hn : ∀ {s'}, zE atS s0 s' → RN s'.1 164 17 8 := fun z => by unfold RN; rw [z.2 164 17 (by simp [atS])]; exact hH.1
    have hper : ∀ {s'}, zE atS s0 s' → s'.1 172 (nI t).toNatClampNeg = 3 → ¬ s'.1 180 (nI t).toNatClampNeg = 0 := by
      intro s' z
      rw [ct, z.2 172 t (by simp [atS]), z.2 180 t (by simp [atS])]
      exact tOK_per (hT.2.2.1 t (by omega))
    have eN : fitN s0.1 p.toNatClampNeg (t + 1) = if (neF s0.1 t (183 + p.toNatClampNeg) 1 3 4 && neF s0.1 t (183 + p.toNatClampNeg) 2 5 6) = true then fitN s0.1 p.toNatClampNeg t ||| (1 <<< (nI t &&& 31)) else fitN s0.1 p.toNatClampNeg t := rfl
    refine t_X8_fitting_4 hR' ?_
    rw [show s.1 164 19 = nI (nT s0.1) by rw [hE.2 164 19 (by simp [atS])]; exact RN_n hT.1, if_neg (nI_ge (by omega) (by omega)), ← nI_succ, Int32.or_zero]
    refine ⟨hv, ?_⟩
    refine m_isNear (j1 := 1) (j3 := 3) (j4 := 4) hR' (hn hE) hvt (hper hE) hob (by rw [eo hE]; exact hw) (vp_in_nI (n := 1) (by decide) (by decide)) (vp_in_nI (n := 3) (by decide) (by decide)) (vp_in_nI (n := 4) (by decide) (by decide)) rfl rfl rfl (fun s1 hE1 => ⟨zE_R hE1, ?_⟩)
    have z1 := zE_t hE hE1
    rw [ct, neF_at hE hob.1 hob.2]
    by_cases c1 : neF s0.1 t (183 + p.toNatClampNeg) 1 3 4 = true
    rotate_left
    · rw [if_neg c1]
      rw [Bool.eq_false_iff.mpr c1, Bool.false_and, if_neg (by decide)] at eN
      rw [← eN]
      exact ih (t + 1) (by omega) s1 z1
    rw [if_pos c1]
    rw [c1, Bool.true_and] at eN
    refine ⟨hv, ?_⟩
    refine m_isNear (j1 := 2) (j3 := 5) (j4 := 6) (zE_K z1 hR) (hn z1) hvt (hper z1) hob (by rw [eo z1]; exact hw) (vp_in_nI (n := 2) (by decide) (by decide)) (vp_in_nI (n := 5) (by decide) (by decide)) (vp_in_nI (n := 6) (by decide) (by decide)) rfl rfl rfl (fun s2 hE2 => ⟨zE_R hE2, ?_⟩)
    have z2 := zE_t z1 hE2
    rw [ct, neF_at z1 hob.1 hob.2]
    by_cases c2 : neF s0.1 t (183 + p.toNatClampNeg) 2 5 6 = true
    · rw [if_pos c2]
      rw [if_pos c2] at eN
      intro v ev
      rw [ev, ← eN]
      exact ih (t + 1) (by omega) s2 z2
    · rw [if_neg c2]
      rw [if_neg c2] at eN
      rw [← eN]
      exact ih (t + 1) (by omega) s2 z2
theorem m_fitting (hR : zRok s0) (hH : RelH s0.1) (hT : RelT s0.1) (hS : RelS s0.1) (hL : RelL s0.1) (hv : vp_in p 60) (hk : p.toNatClampNeg < nK s0.1) (h : ∀ s', zE atS s0 s' → K (fitF s0.1 p.toNatClampNeg) s') : zc l g (d + 7) M_X8_fitting [.ref 164, .int p] s0 (zKi K) :=
  t_X8_fitting hR (m_fitting_4 hR hH hT hS hL hv hk h (nT s0.1) 0 (by omega) s0 zE_r)
end MF
