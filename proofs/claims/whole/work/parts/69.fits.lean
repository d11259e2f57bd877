/-! ===== fits: both sides ===== -/
/-- bit t of x -/
def bitT (x : Int32) (t : Nat) : Prop := (x >>> (nI t &&& 31)) &&& 1 = 1
def kthL (x k : Int32) : Nat → Nat → Int32 → Int32
  | 0, _, _ => -1
  | m + 1, t, c => if (x >>> (nI t &&& 31)) &&& 1 = 1 then (if c = k then nI t else kthL x k m (t + 1) (c + 1)) else kthL x k m (t + 1) c
section OFI
variable {l : Launch} {g : zG} {d : Nat} {s : zS} {x k : Int32} {K : Int32 → zS → Prop}
theorem c_fits_37 (hC : Core s) : ∀ m t c, t + m = nT s.1 → K (kthL x k m t c) s → zt l g (d + 1) M_X7_fits 37 [.ref 64, zJ, .int k, .int x, .int c, .int (nI t)] [] s (zKi K) := by
  obtain ⟨e5, -, n12⟩ := Core_c5 hC
  intro m
  induction m with
  | zero =>
    intro t c ht h
    refine t_X7_fits_37 hC.1 ?_
    rw [e5, if_pos (nI_le (by omega) (by omega))]
    exact h
  | succ m ih =>
    intro t c ht h
    refine t_X7_fits_37 hC.1 ?_
    rw [e5, if_neg (nI_ge (by omega) (by omega)), ← nI_succ]
    unfold kthL at h
    by_cases c1 : (x >>> (nI t &&& 31)) &&& 1 = 1
    · rw [if_pos c1] at h ⊢
      by_cases c2 : c = k
      · rw [if_pos c2] at h ⊢; exact h
      · rw [if_neg c2] at h ⊢; exact ih (t + 1) _ (by omega) h
    · rw [if_neg c1] at h ⊢; exact ih (t + 1) _ (by omega) h
theorem m_fits_32 (hC : Core s) : ∀ m t c, t + m = nT s.1 → K (kthL x k m t c) s → zt l g (d + 1) M_X8_fits 32 [.ref 164, zJ, .int k, .int x, .int c, .int (nI t)] [] s (zKi K) := by
  obtain ⟨-, e5, n12⟩ := Core_c5 hC
  intro m
  induction m with
  | zero =>
    intro t c ht h
    refine t_X8_fits_32 hC.1 ?_
    rw [e5, if_pos (nI_le (by omega) (by omega))]
    exact h
  | succ m ih =>
    intro t c ht h
    refine t_X8_fits_32 hC.1 ?_
    rw [e5, if_neg (nI_ge (by omega) (by omega)), ← nI_succ]
    unfold kthL at h
    by_cases c1 : (x >>> (nI t &&& 31)) &&& 1 = 1
    · rw [if_pos c1] at h
      rw [if_neg (and1_p c1)]
      by_cases c2 : c = k
      · rw [if_pos c2] at h ⊢; exact h
      · rw [if_neg c2] at h ⊢; exact ih (t + 1) _ (by omega) h
    · rw [if_neg c1] at h
      rw [if_pos (and1_n c1)]; exact ih (t + 1) _ (by omega) h
theorem op_fits {p : Int32} {Q : zS → Prop} (hC : Core s) (h1 : ∀ s', zE fS s s' → Core s' → Q s') :
    zc l g (d + 8) M_X7_fits [.ref 64, .int p, .int k] s (zKi fun r s5 => zc l g (d + 8) M_X8_fits [.ref 164, .int p, .int k] s5 (zKi fun r' s10 => r = r' ∧ Q s10)) := by
  have hL := hC.2.2.2.2.2.1
  refine t_X7_fits hC.1 (c_isTelling hC.1 (by rw [hL.2.1]; exact hL.1.1) ⟨rfl, ?_⟩)
  rw [hL.2.1]
  by_cases a1 : bR 0 ((s.1 164 24).toInt - 1) p = true
  rotate_left
  · rw [if_neg a1]
    refine t_X8_fits hC.1 (m_isTelling hC.1 hL.1.1 ⟨rfl, ?_⟩)
    rw [if_neg a1]; exact ⟨rfl, h1 s zE_r hC⟩
  rw [if_pos a1]
  obtain ⟨t1, t2, hv⟩ := teN hL a1
  refine ⟨hv, c_fitG (d := d + 1) okS_f zE_r hC t1 (fun s1 _ hE1 hC1 => ⟨zE_R hE1, ?_⟩)⟩
  have run : ∀ r : Int32, (k = -1 → r = zbc (fitF s.1 p.toNatClampNeg)) → (¬ k = -1 → r = kthL (fitF s.1 p.toNatClampNeg) k (nT s.1) 0 0) → zc l g (d + 8) M_X8_fits [.ref 164, .int p, .int k] s1 (zKi fun r' s10 => r = r' ∧ Q s10) := by
    intro r c1 c2
    have e24 := (nK_g okS_f.2 hE1).2
    refine t_X8_fits hC1.1 (m_isTelling hC1.1 (by rw [e24]; exact hL.1.1) ⟨rfl, ?_⟩)
    rw [e24, if_pos a1]
    refine m_fitG okS_f hE1 hC1 hv rfl t1 (fun s2 hE12 hE2 hC2 => ⟨zE_R hE12, ?_⟩)
    by_cases w : k = -1
    · rw [if_pos w]; exact ⟨c1 w, h1 s2 hE2 hC2⟩
    · rw [if_neg w]
      exact m_fits_32 hC2 (nT s.1) 0 0 (by rw [(nT_g okS_f.2 hE2).1]; omega) ⟨c2 w, h1 s2 hE2 hC2⟩
  by_cases w : k = -1
  · rw [if_pos w]; exact run _ (fun _ => rfl) (fun q => absurd w q)
  · rw [if_neg w]
    exact c_fits_37 hC1 (nT s.1) 0 0 (by rw [(nT_g okS_f.2 hE1).1]; omega) (run _ (fun q => absurd q w) (fun _ => rfl))
end OFI
