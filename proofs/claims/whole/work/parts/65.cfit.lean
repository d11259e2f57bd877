/-! ===== the class's fitting ===== -/
/-- scratch of a fitting: Sight, and slots 9 and 10 of telling o -/
def cfS (o : Nat) : Nat → Nat → Prop := fun p j => p = 68 ∨ (p = o ∧ (j = 9 ∨ j = 10))
section CF
variable {l : Launch} {g : zG} {d : Nat} {s0 : zS} {k : Nat} {K : Int32 → zS → Prop}
theorem c_fit_15 (hR : zRok s0) (hH : RelH s0.1) (hO : RelO s0.1) (hT : RelT s0.1) (hS : RelS s0.1) (hL : RelL s0.1) (hk : k < nK s0.1)
    (h : ∀ s', zE s68 s0 s' → K (fitF s0.1 k) (zI (zI s' (104 + k) 9 (fitF s0.1 k)) (104 + k) 10 (s0.1 64 10))) :
    ∀ m t, t + m = nT s0.1 → ∀ s, zE s68 s0 s → zt l g (d + 6) M_X7_fittingOf 15 [.ref 64, .ref (104 + k), .int (fitN s0.1 k t), .int (nI t)] [] s (zKi K) := by
  have n12 : nT s0.1 ≤ 12 := RN_l hT.1
  have k60 : k < 60 := by have := RN_l hL.1; unfold nK at hk; omega
  have hl := hL.2.2 _ hk
  have hb : 104 ≤ 104 + k ∧ 104 + k < 164 := by omega
  have hob : ¬ 104 + k = 68 := by omega
  intro m
  induction m with
  | zero =>
    intro t ht s hE
    refine t_X7_fittingOf_15 (zE_K hE hR) hb ?_
    rw [show s.1 64 5 = nI (nT s0.1) by rw [z68 hE (by decide), hT.2.1]; exact RN_n hT.1, if_pos (nI_le (by omega) (by omega)), show s.1 64 10 = s0.1 64 10 from z68 hE (by decide)]
    rw [show t = nT s0.1 by omega]
    exact h s hE
  | succ m ih =>
    intro t ht s hE
    have hR' := zE_K hE hR
    have hvt : vp_in (nI t) 12 := vp_in_nI (by omega) (by decide)
    have ct : (nI t).toNatClampNeg = t := nI_clamp (by omega)
    have eN : fitN s0.1 k (t + 1) = if (neF s0.1 t (183 + k) 1 3 4 && neF s0.1 t (183 + k) 2 5 6) = true then fitN s0.1 k t ||| (1 <<< (nI t &&& 31)) else fitN s0.1 k t := rfl
    rw [← likeF_ne hl] at eN
    refine t_X7_fittingOf_15 hR' hb ?_
    rw [show s.1 64 5 = nI (nT s0.1) by rw [z68 hE (by decide), hT.2.1]; exact RN_n hT.1, if_neg (nI_ge (by omega) (by omega)), ← nI_succ, ct]
    refine ⟨hvt, ?_⟩
    have hO' : RelO s.1 := by
      unfold RelO RN at *
      rw [z68 hE (by decide), z68 hE (by decide), z68 hE (by decide), z68 hE (by decide)]
      exact hO
    have e18 : s.1 164 18 = s0.1 164 18 := z68 hE (by decide)
    have hS' : RelS s.1 := RelS_c e18 (z68 hE (by decide)) (fun k => z68 hE (by decide)) (fun k => z68 hE (by decide)) (fun k => z68 hE (by decide)) hS
    have eo : ∀ j, s.1 (104 + k) j = s0.1 (104 + k) j := fun j => z68 hE hob
    have sa := same68 hE t
    have e70 : ∀ i, s.1 170 i = s0.1 170 i := fun i => z68 hE (by decide)
    have e71 : ∀ i, s.1 171 i = s0.1 171 i := fun i => z68 hE (by decide)
    have eL : likeF s.1 t (104 + k) = likeF s0.1 t (104 + k) := by
      unfold likeF nrF
      rw [eo, eo, eo, eo, eo, eo, eo, shF_c sa (e70 _) (e71 _), shF_c sa (e70 _) (e71 _), wyF_c sa (e70 _) (e71 _), wyF_c sa (e70 _) (e71 _), slF_c sa (e70 _) (e71 _), slF_c sa (e70 _) (e71 _), z68 hE (by decide), z68 hE (by decide)]
    refine c_isLike (d := d) hR' (RelH68 hE hH) hO' hS' (by omega) (tOK68 hE (hT.2.2.1 t (by omega)) (by omega)) hb (by rw [eo, e18, hl.1 0 (by decide)]; exact hl.2.1) (by rw [eo, hl.1 1 (by decide)]; exact hl.2.2.1) (by rw [eo, hl.1 2 (by decide)]; exact hl.2.2.2.1) (fun s1 hE1 => ⟨zE_R hE1, ?_⟩)
    have z1 := zE_t hE hE1
    rw [eL]
    by_cases c : likeF s0.1 t (104 + k) = true
    · rw [if_pos c]
      rw [if_pos c] at eN
      intro v ev
      rw [ev, ← eN]
      exact ih (t + 1) (by omega) s1 z1
    · rw [if_neg c]
      rw [if_neg c] at eN
      rw [← eN]
      exact ih (t + 1) (by omega) s1 z1
end CF
