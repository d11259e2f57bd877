/-! ===== fewest: both sides ===== -/
theorem zbc12a : ∀ a : Fin 64, ∀ b : Fin 64, zbc (nI (64 * a.val + b.val)) < 13 := by decide +kernel
theorem zbc12 (h : Nat) (hh : h < 4096) : zbc (nI h) < 13 := by
  have := zbc12a ⟨h / 64, by omega⟩ ⟨h % 64, by omega⟩
  simp only at this
  rw [show 64 * (h / 64) + h % 64 = h by omega] at this
  exact this
noncomputable def fewL (I : zM2) : Nat → Nat → Int32 → Int32
  | 0, _, b => b
  | m + 1, h, b => (Classical.propDecidable (allM I (nI h))).byCases (fun _ => if b = -1 then fewL I m (h + 1) (nI h) else if zbc (nI h) < zbc b then fewL I m (h + 1) (nI h) else fewL I m (h + 1) b) (fun _ => fewL I m (h + 1) b)
theorem fewL_p {I : zM2} {m h : Nat} {b : Int32} (c : allM I (nI h)) (w : b = -1 ∨ zbc (nI h) < zbc b) : fewL I (m + 1) h b = fewL I m (h + 1) (nI h) := by
  show (Classical.propDecidable (allM I (nI h))).byCases _ _ = _
  cases Classical.propDecidable (allM I (nI h)) with
  | isTrue q =>
    show (if b = -1 then _ else _) = _
    by_cases w1 : b = -1
    · rw [if_pos w1]
    · rw [if_neg w1, if_pos (w.resolve_left w1)]
  | isFalse q => exact absurd c q
theorem fewL_n {I : zM2} {m h : Nat} {b : Int32} (c : ¬ allM I (nI h) ∨ (¬ b = -1 ∧ ¬ zbc (nI h) < zbc b)) : fewL I (m + 1) h b = fewL I m (h + 1) b := by
  show (Classical.propDecidable (allM I (nI h))).byCases _ _ = _
  cases Classical.propDecidable (allM I (nI h)) with
  | isTrue q =>
    have c2 := c.resolve_left (fun w => w q)
    show (if b = -1 then _ else _) = _
    rw [if_neg c2.1, if_neg c2.2]
  | isFalse q => rfl
theorem fewL_ne {I : zM2} : ∀ m h b, h + m ≤ 4096 → (¬ b = -1 ∨ ∃ h', h ≤ h' ∧ h' < h + m ∧ allM I (nI h')) → ¬ fewL I m h b = -1 := by
  intro m
  induction m with
  | zero =>
    intro h b hm w
    rcases w with w | ⟨h', a, b', -⟩
    · exact w
    · omega
  | succ m ih =>
    intro h b hm w
    by_cases c : allM I (nI h) ∧ (b = -1 ∨ zbc (nI h) < zbc b)
    · rw [fewL_p c.1 c.2]
      exact ih (h + 1) _ (by omega) (Or.inl (nI_N1 (by omega)))
    · have c2 : ¬ allM I (nI h) ∨ (¬ b = -1 ∧ ¬ zbc (nI h) < zbc b) := by
        by_cases a : allM I (nI h)
        · exact Or.inr ⟨fun e => c ⟨a, Or.inl e⟩, fun e => c ⟨a, Or.inr e⟩⟩
        · exact Or.inl a
      rw [fewL_n c2]
      refine ih (h + 1) b (by omega) ?_
      rcases w with w | ⟨h', a, b', e⟩
      · exact Or.inl w
      · by_cases q : h' = h
        · subst q
          exact Or.inl (fun e2 => c ⟨e, Or.inl e2⟩)
        · exact Or.inr ⟨h', by omega, by omega, e⟩
theorem allM_c {I I' : zM2} {x : Int32} (h : eqM I I') (hk : nK I ≤ 60) : allM I' x ↔ allM I x := by
  unfold allM
  rw [show nK I' = nK I by unfold nK; rw [h 164 24 (by simp [mS])]]
  constructor
  · intro w k hk2
    have := w k hk2
    rwa [fitF_c h (by omega)] at this
  · intro w k hk2
    rw [fitF_c h (by omega)]
    exact w k hk2
theorem full_all {I : zM2} (hT : nT I ≤ 12) : allM I (nI (2 ^ nT I - 1)) := by
  intro k hk h0
  obtain ⟨e, l1, l2⟩ := fitF_B (I := I) (k := k) hT
  have hp := p12 hT
  rw [e] at h0 ⊢
  rw [nI_and (by omega) (by omega), Nat.and_two_pow_sub_one_eq_mod, Nat.mod_eq_of_lt l1]
  exact h0
section FW
variable {l : Launch} {g : zG} {d : Nat} {s0 : zS} {K : Int32 → zS → Prop}
theorem c_fewest_13 {n : Nat} (hn : n ≤ 60) {s : zS} (hE : zE fwS s0 s) (hC : Core s) (hI : ndI s0.1 s.1 (nK s0.1) n) (hK : K (fewL s0.1 (2 ^ nT s0.1) 0 (-1)) s) :
    ∀ m h b x y, h + m = 2 ^ nT s0.1 → fewL s0.1 m h b = fewL s0.1 (2 ^ nT s0.1) 0 (-1) → ((b = -1 ∧ x = 0 ∧ y = 13) ∨ (¬ b = -1 ∧ x = b ∧ y = zbc b)) → zt l g (d + 1) M_X7_fewest 13 [.ref 64, .int (nI n), .int x, .int y, .int (nI h), zJ] [] s (zKi K) := by
  obtain ⟨e5, -, n12⟩ := Core_c5 hC
  have nt := (nT_g okS_fw.2 hE).1
  have hp := p12 (t := nT s0.1) (by omega)
  have ne : ¬ fewL s0.1 (2 ^ nT s0.1) 0 (-1) = -1 := fewL_ne _ _ _ (by omega) (Or.inr ⟨2 ^ nT s0.1 - 1, by omega, by have := Nat.two_pow_pos (nT s0.1); omega, full_all (by omega)⟩)
  intro m
  induction m with
  | zero =>
    intro h b x y hh hf hb
    refine t_X7_fewest_13 hC.1 ?_
    rw [e5, nt, sh1 _ (by omega), if_pos (nI_le (by omega) (by omega))]
    have hf2 : b = fewL s0.1 (2 ^ nT s0.1) 0 (-1) := hf
    rcases hb with ⟨b1, -, -⟩ | ⟨b1, b2, -⟩
    · exact absurd (hf2.symm.trans b1) ne
    · rw [b2, hf2]; exact hK
  | succ m ih =>
    intro h b x y hh hf hb
    refine t_X7_fewest_13 hC.1 ?_
    have z12 := zbc12 h (by omega)
    rw [e5, nt, sh1 _ (by omega), if_neg (nI_ge (by omega) (by omega)), ← nI_succ]
    have hy : zbc (nI h) < y ↔ (b = -1 ∨ zbc (nI h) < zbc b) := by
      rcases hb with ⟨b1, -, b3⟩ | ⟨b1, -, b3⟩
      · rw [b3]; exact ⟨fun _ => Or.inl b1, fun _ => z12⟩
      · rw [b3]; exact ⟨fun w => Or.inr w, fun w => w.resolve_left b1⟩
    by_cases c : y ≤ zbc (nI h)
    · rw [if_pos c]
      have c2 : ¬ zbc (nI h) < y := by rw [ti_lt]; rw [ti_le] at c; omega
      rw [hy] at c2
      rw [fewL_n (Or.inr ⟨fun e => c2 (Or.inl e), fun e => c2 (Or.inr e)⟩)] at hf
      exact ih (h + 1) b x y (by omega) hf hb
    · rw [if_neg c]
      have c2 : zbc (nI h) < y := by rw [ti_lt]; rw [ti_le] at c; omega
      rw [hy] at c2
      refine c_meets hC.1 hn hI (fun bb hbb => ⟨rfl, ?_⟩)
      by_cases c3 : bb = true
      · rw [if_pos c3]
        rw [fewL_p (hbb.mp c3) c2] at hf
        exact ih (h + 1) (nI h) _ _ (by omega) hf (Or.inr ⟨nI_N1 (by omega), rfl, rfl⟩)
      · rw [if_neg c3]
        rw [fewL_n (Or.inl (fun w => c3 (hbb.mpr w)))] at hf
        exact ih (h + 1) b x y (by omega) hf hb
theorem m_fewest_2 (hK : ∀ s', zE fwS s0 s' → Core s' → (∀ k, k < nK s0.1 → s'.1 243 k = fitF s0.1 k) → zt l g (d + 8) M_X8_fewest 31 [.ref 164, .int (-1), .int 0, zJ, zJ] [] s' (zKi K)) : ∀ m i s, i + m = nK s0.1 → zE fwS s0 s → Core s → (∀ k, k < i → s.1 243 k = fitF s0.1 k) → zt l g (d + 8) M_X8_fewest 2 [.ref 164, .int (nI i), zJ, zJ, zJ] [] s (zKi K) := by
  intro m
  induction m with
  | zero =>
    intro i s hi hE hC hI
    obtain ⟨-, e7, n60⟩ := Core_c7 hC
    have nk := (nK_g okS_fw.2 hE).1
    refine t_X8_fewest_2 hC.1 ?_
    rw [e7, if_pos (nI_le (by omega) (by omega))]
    exact hK s hE hC (by rw [show nK s0.1 = i by omega]; exact hI)
  | succ m ih =>
    intro i s hi hE hC hI
    obtain ⟨-, e7, n60⟩ := Core_c7 hC
    have nk := (nK_g okS_fw.2 hE).1
    have hv : vp_in (nI i) 60 := vp_in_nI (by omega) (by decide)
    refine t_X8_fewest_2 hC.1 ?_
    rw [e7, if_neg (nI_ge (by omega) (by omega)), ← nI_succ]
    refine m_fitG (d := d) okS_fw hE hC hv (nI_clamp (by omega)) (by omega) (fun s1 hE1 hE01 hC1 => ⟨zE_R hE1, hv, ?_⟩)
    rw [nI_clamp (by omega)]
    refine ih (i + 1) _ (by omega) (zE_i hE01 (Or.inr (Or.inr rfl))) (Core_243 hC1) (fun k hk => ?_)
    by_cases e : k = i
    · subst e; rw [zI_eq]
    · rw [zI_k e, hE1.2 243 k (by unfold fS; omega)]
      exact hI k (by omega)
theorem m_fewest_65 {s : zS} {b : Int32} {h : Nat} (hC : Core s) (hk : nK s.1 = nK s0.1) (hI : ∀ k, k < nK s0.1 → s.1 243 k = fitF s0.1 k)
    (h1 : allM s0.1 (nI h) → zt l g (d + 1) M_X8_fewest 31 [.ref 164, .int (nI h), .int (nI (h + 1)), zJ, zJ] [] s (zKi K))
    (h2 : ¬ allM s0.1 (nI h) → zt l g (d + 1) M_X8_fewest 31 [.ref 164, .int b, .int (nI (h + 1)), zJ, zJ] [] s (zKi K)) :
    ∀ m k, k + m = nK s0.1 → (∀ k', k' < k → ¬ fitF s0.1 k' = 0 → ¬ fitF s0.1 k' &&& nI h = 0) → zt l g (d + 1) M_X8_fewest 65 [.ref 164, .int b, .int (nI h), .int 1, .int (nI k)] [] s (zKi K) := by
  obtain ⟨-, e7, n60⟩ := Core_c7 hC
  intro m
  induction m with
  | zero =>
    intro k hkm hp
    refine t_X8_fewest_65 hC.1 ?_
    rw [e7, if_pos (nI_le (by omega) (by omega)), if_neg (by decide), ← nI_succ]
    exact h1 (fun k' a => hp k' (by omega))
  | succ m ih =>
    intro k hkm hp
    have hv : vp_in (nI k) 60 := vp_in_nI (by omega) (by decide)
    refine t_X8_fewest_65 hC.1 ?_
    rw [e7, if_neg (nI_ge (by omega) (by omega)), if_neg (by decide), nI_clamp (by omega), hI k (by omega), ← nI_succ]
    refine ⟨hv, ?_⟩
    by_cases c : fitF s0.1 k = 0
    · rw [if_pos c]
      exact ih (k + 1) (by omega) (fun k' a => by
        by_cases w : k' = k
        · subst w; exact fun w2 => absurd c w2
        · exact hp k' (by omega))
    rw [if_neg c]
    refine ⟨hv, ?_⟩
    by_cases c2 : fitF s0.1 k &&& nI h = 0
    · rw [if_pos c2]
      refine t_X8_fewest_65 hC.1 ?_
      rw [if_pos rfl, if_pos rfl, ← nI_succ, ite_self]
      exact h2 (fun w => w k (by omega) c c2)
    · rw [if_neg c2]
      exact ih (k + 1) (by omega) (fun k' a => by
        by_cases w : k' = k
        · subst w; exact fun _ => c2
        · exact hp k' (by omega))
theorem m_fewest_31 {s : zS} (hE : zE fwS s0 s) (hC : Core s) (hI : ∀ k, k < nK s0.1 → s.1 243 k = fitF s0.1 k) (hK : K (fewL s0.1 (2 ^ nT s0.1) 0 (-1)) s) :
    ∀ m h b, h + m = 2 ^ nT s0.1 → fewL s0.1 m h b = fewL s0.1 (2 ^ nT s0.1) 0 (-1) → zt l g (d + 1) M_X8_fewest 31 [.ref 164, .int b, .int (nI h), zJ, zJ] [] s (zKi K) := by
  obtain ⟨-, e5, n12⟩ := Core_c5 hC
  have nt := (nT_g okS_fw.2 hE).1
  have nk := (nK_g okS_fw.2 hE).1
  have hp := p12 (t := nT s0.1) (by omega)
  intro m
  induction m with
  | zero =>
    intro h b hh hf
    refine t_X8_fewest_31 hC.1 ?_
    rw [e5, nt, sh1 _ (by omega), if_pos (nI_le (by omega) (by omega))]
    have hf2 : b = fewL s0.1 (2 ^ nT s0.1) 0 (-1) := hf
    rw [hf2]; exact hK
  | succ m ih =>
    intro h b hh hf
    refine t_X8_fewest_31 hC.1 ?_
    rw [e5, nt, sh1 _ (by omega), if_neg (nI_ge (by omega) (by omega)), ← nI_succ]
    have go : (b = -1 ∨ zbc (nI h) < zbc b) → zt l g (d + 1) M_X8_fewest 65 [.ref 164, .int b, .int (nI h), .int 1, .int 0] [] s (zKi K) := by
      intro w
      refine m_fewest_65 (s0 := s0) hC nk hI (fun q => ?_) (fun q => ?_) (nK s0.1) 0 (by omega) (fun k h => absurd h (by omega))
      · rw [fewL_p q w] at hf
        exact ih (h + 1) _ (by omega) hf
      · rw [fewL_n (Or.inl q)] at hf
        exact ih (h + 1) _ (by omega) hf
    by_cases c : b = -1
    · rw [if_pos c]; exact go (Or.inl c)
    rw [if_neg c]
    by_cases c2 : zbc (nI h) < zbc b
    · rw [if_pos c2]; exact go (Or.inr c2)
    · rw [if_neg c2]
      rw [fewL_n (Or.inr ⟨c, c2⟩)] at hf
      exact ih (h + 1) _ (by omega) hf
end FW
section FWO
variable {l : Launch} {g : zG} {d : Nat} {s : zS}
theorem op_fewest {Q : zS → Prop} (hC : Core s) (h1 : ∀ s', zE fwS s s' → Core s' → Q s') :
    zc l g (d + 8) M_X7_fewest [.ref 64] s (zKi fun r s5 => zc l g (d + 8) M_X8_fewest [.ref 164] s5 (zKi fun r' s10 => r = r' ∧ Q s10)) := by
  have n60 := (Core_c7 hC).2.2
  refine t_X7_fewest hC.1 (t_X7_gatherNeeds (d := d + 6) hC.1 (c_needs_4 (s0 := s) (d := d) ?_ (nK s.1) 0 0 s (by omega) zE_r hC ⟨by omega, fun j h => absurd h (by omega), fun k h => absurd h (by omega)⟩))
  intro n s1 hE hC1 hI
  refine ⟨zE_R hE, c_fewest_13 (s0 := s) (d := d + 7) (by have := hI.1; omega) hE hC1 hI ?_ (2 ^ nT s.1) 0 (-1) 0 13 (by omega) rfl (Or.inl ⟨rfl, rfl, rfl⟩)⟩
  refine t_X8_fewest hC1.1 (m_fewest_2 (s0 := s) (d := d) ?_ (nK s.1) 0 s1 (by omega) hE hC1 (fun k h => absurd h (by omega)))
  intro s2 hE2 hC2 hI2
  exact m_fewest_31 (s0 := s) (d := d + 7) hE2 hC2 hI2 ⟨rfl, h1 s2 hE2 hC2⟩ (2 ^ nT s.1) 0 (-1) (by omega) rfl
end FWO
