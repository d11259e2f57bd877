/-! ===== out: both sides ===== -/
def outL (I : zM2) (t i : Nat) : Nat → Nat → Bool → Int32
  | 0, n, b => if b = true then nI n else -1
  | m + 1, n, b => if b = true then (if shF I t i (nI n) = true then outL I t i m (n + 1) true else nI n) else outL I t i m (n + 1) (shF I t i (nI n))
theorem shF_lk {s0 s : zS} (h : zE lkS s0 s) (t i : Nat) (m : Int32) : shF s.1 t i m = shF s0.1 t i m :=
  shF_c (same_lk h t) (h.2 _ _ (by simp [lkS])) (h.2 _ _ (by simp [lkS])) m
theorem zb0 {b : Bool} : zb b = 0 ↔ ¬ b = true := by cases b <;> decide
theorem shF_no {I : zM2} {t i : Nat} {m : Int32} (k2 : I 172 t = 2) (h : ¬ bR (I 173 t).toInt (I 174 t).toInt m = true) : shF I t i m = false := by
  unfold shF litF pIs
  rw [k2, if_neg (by decide), if_neg h]
  rfl
section OUU
variable {l : Launch} {g : zG} {d : Nat} {s0 : zS} {p q : Int32} {K : Int32 → zS → Prop}
theorem c_out_47 (hv : vp_in p 20) {t L : Nat} (hp : p.toNatClampNeg < nS s0.1) (ht : t < nT s0.1) (h2 : s0.1 (92 + t) 2 = nI L) (hL : L < 240) :
    ∀ m n b s, n + m = L + 1 → zE lkS s0 s → Core s → (∀ s', zE lkS s0 s' → Core s' → K (outL s0.1 t p.toNatClampNeg m n b) s') → zt l g (d + 5) M_X7_out 47 [.ref 64, zJ, .int p, .ref (92 + t), .int (zb b), .int (nI n), zJ] [] s (zKi K) := by
  intro m
  induction m with
  | zero =>
    intro n b s hn hE hC h
    obtain ⟨e5, -, n12⟩ := Core_c5 hC
    have n1 := (nT_g (S := lkS) (fun o j w => by unfold lkS at w; unfold gSc; omega) hE).1
    refine t_X7_out_47 hC.1 (by omega) ?_
    rw [show s.1 (92 + t) 2 = nI L by rw [hE.2 _ _ (by unfold lkS; omega)]; exact h2, if_pos (nI_lt (by omega) (by omega))]
    have h3 := h s hE hC
    unfold outL at h3
    by_cases w : b = true
    · rw [if_pos w] at h3
      rw [if_neg (by rw [zb0]; exact fun u => u w), ← nI_succ, show L + 1 = n by omega]; exact h3
    · rw [if_neg w] at h3
      rw [if_pos (zb0.mpr w)]; exact h3
  | succ m ih =>
    intro n b s hn hE hC h
    obtain ⟨e5, -, n12⟩ := Core_c5 hC
    have n1 := (nT_g (S := lkS) (fun o j w => by unfold lkS at w; unfold gSc; omega) hE).1
    have sv := RelS_v hC.2.2.2.2.1 (show p.toNatClampNeg < nS s.1 by unfold nS at *; rw [hE.2 164 18 (by simp [lkS])]; exact hp)
    refine t_X7_out_47 hC.1 (by omega) ?_
    rw [show s.1 (92 + t) 2 = nI L by rw [hE.2 _ _ (by unfold lkS; omega)]; exact h2, if_neg (nI_nlt (by omega) (by omega)), ← nI_succ]
    refine ⟨hv, c_shows (d := d) (i := p.toNatClampNeg) hC.1 hC.2.1 (by omega) (hC.2.2.2.1.2.2.1 t (by omega)) (bR_t.mpr (by rw [nI_toInt (by omega)]; omega)) sv.2.2.2.2.1 sv.2.2.2.2.2.1 (fun s1 hE1 _ => ⟨zE_R hE1, ?_⟩)⟩
    rw [shF_lk hE]
    have hE2 := zE_t hE (lk68 hE1)
    have hC2 := Core_lk (lk68 hE1) hC
    unfold outL at h
    by_cases w : b = true
    · simp only [if_pos w] at h
      rw [if_neg (by rw [zb0]; exact fun u => u w)]
      by_cases c : shF s0.1 t p.toNatClampNeg (nI n) = true
      · simp only [if_pos c] at h
        rw [if_pos c, c]
        exact ih (n + 1) true s1 (by omega) hE2 hC2 h
      · simp only [if_neg c] at h
        rw [if_neg c]; exact h s1 hE2 hC2
    · simp only [if_neg w] at h
      rw [if_pos (zb0.mpr w)]
      exact ih (n + 1) _ s1 (by omega) hE2 hC2 h
theorem m_out_38 (hv : vp_in p 12) (hw : vp_in q 20) {F L : Nat} (ht : p.toNatClampNeg < nT s0.1) (k2 : s0.1 172 p.toNatClampNeg = 2) (hF : s0.1 173 p.toNatClampNeg = nI F) (h2 : s0.1 174 p.toNatClampNeg = nI L) (hL : L < 240) (hFL : F ≤ L) :
    ∀ m n b s, n + m = L + 1 → zE lkS s0 s → Core s → (∀ s', zE lkS s0 s' → Core s' → K (outL s0.1 p.toNatClampNeg q.toNatClampNeg m n b) s') → zt l g (d + 6) M_X8_out 38 [.ref 164, .int p, .int q, .int (zb b), .int (nI n), zJ] [] s (zKi K) := by
  have e2 : ∀ {s}, zE lkS s0 s → s.1 174 p.toNatClampNeg = nI L := fun z => by rw [z.2 _ _ (by simp [lkS])]; exact h2
  have sh : ∀ {s} {n : Nat} {K : Bool → zS → Prop}, zE lkS s0 s → Core s → (∀ s', s'.2.2.1 = s.2.2.1 → zE lkS s0 s' → Core s' → K (shF s0.1 p.toNatClampNeg q.toNatClampNeg (nI n)) s') → zc l g (d + 5) M_X8_isShown [.ref 164, .int p, .int q, .int (nI n)] s (zKz K) := by
    intro s n K hE hC h
    have hT := hC.2.2.2.1
    have n1 := (nT_g (S := lkS) (fun o j w => by unfold lkS at w; unfold gSc; omega) hE).1
    refine m_isShown (d := d) hC.1 hC.2.1.1 hv hw (tOK_per (hT.2.2.1 _ (by omega))) (fun s1 hE1 => ?_)
    rw [shF_lk hE]
    exact h s1 (zE_R hE1) (zE_t hE (lkAt hE1)) (Core_lk (lkAt hE1) hC)
  have fin : ∀ n s, n = L + 2 → zE lkS s0 s → Core s → K (-1) s → zt l g (d + 6) M_X8_out 38 [.ref 164, .int p, .int q, .int (zb false), .int (nI n), zJ] [] s (zKi K) := by
    intro n s hn hE hC h
    refine t_X8_out_38 hC.1 ⟨hv, ?_⟩
    rw [e2 hE, ← nI_succ, if_pos (nI_lt (by omega) (by omega))]
    exact h
  have z0 : (0 : Int32) = zb false := rfl
  intro m
  induction m with
  | zero =>
    intro n b s hn hE hC h
    refine t_X8_out_38 hC.1 ⟨hv, ?_⟩
    rw [e2 hE, ← nI_succ, if_neg (nI_nlt (by omega) (by omega)), ← nI_succ]
    unfold outL at h
    by_cases c : L = 239
    · rw [if_pos (by rw [ti_le, nI_toInt (by omega), show (240 : Int32).toInt = 240 from rfl]; omega)]
      by_cases w : b = true
      · simp only [if_pos w] at h
        rw [if_neg (by rw [zb0]; exact fun u => u w)]; exact h s hE hC
      · simp only [if_neg w] at h
        rw [if_pos (zb0.mpr w), z0]
        exact fin (n + 1) s (by omega) hE hC (h s hE hC)
    · rw [if_neg (by rw [ti_le, nI_toInt (by omega), show (240 : Int32).toInt = 240 from rfl]; omega)]
      refine sh hE hC (fun s1 hR1 hE1 hC1 => ⟨hR1, ?_⟩)
      rw [shF_no k2 (by rw [hF, h2, bR_t, nI_toInt (by omega), nI_toInt (by omega), nI_toInt (by omega)]; omega), if_neg (by decide)]
      by_cases w : b = true
      · simp only [if_pos w] at h
        rw [if_neg (by rw [zb0]; exact fun u => u w)]; exact h s1 hE1 hC1
      · simp only [if_neg w] at h
        rw [if_pos (zb0.mpr w), z0]
        exact fin (n + 1) s1 (by omega) hE1 hC1 (h s1 hE1 hC1)
  | succ m ih =>
    intro n b s hn hE hC h
    refine t_X8_out_38 hC.1 ⟨hv, ?_⟩
    rw [e2 hE, ← nI_succ, if_neg (nI_nlt (by omega) (by omega)), ← nI_succ]
    rw [if_neg (by rw [ti_le, nI_toInt (by omega), show (240 : Int32).toInt = 240 from rfl]; omega)]
    refine sh hE hC (fun s1 hR1 hE1 hC1 => ⟨hR1, ?_⟩)
    unfold outL at h
    by_cases c : shF s0.1 p.toNatClampNeg q.toNatClampNeg (nI n) = true
    · rw [if_pos c]
      simp only [if_pos c] at h
      by_cases w : b = true
      · simp only [if_pos w] at h
        rw [if_neg (by rw [zb0]; exact fun u => u w), show (1 : Int32) = zb true from rfl]
        exact ih (n + 1) true s1 (by omega) hE1 hC1 h
      · simp only [if_neg w, c] at h
        rw [if_pos (zb0.mpr w), show (1 : Int32) = zb true from rfl]
        exact ih (n + 1) true s1 (by omega) hE1 hC1 h
    · rw [if_neg c]
      simp only [if_neg c] at h
      by_cases w : b = true
      · simp only [if_pos w] at h
        rw [if_neg (by rw [zb0]; exact fun u => u w)]
        exact h s1 hE1 hC1
      · simp only [if_neg w, Bool.eq_false_iff.mpr c] at h
        rw [if_pos (zb0.mpr w), z0]
        exact ih (n + 1) false s1 (by omega) hE1 hC1 h
end OUU
section OUV
variable {l : Launch} {g : zG} {d : Nat} {s : zS} {p q : Int32}
theorem op_out {Q : zS → Prop} (hC : Core s) (h1 : ∀ s', zE fS s s' → Core s' → Q s') :
    zc l g (d + 6) M_X7_out [.ref 64, .int p, .int q] s (zKi fun r s5 => zc l g (d + 6) M_X8_out [.ref 164, .int p, .int q] s5 (zKi fun r' s10 => r = r' ∧ Q s10)) := by
  have hT := hC.2.2.2.1
  have hS := hC.2.2.2.2.1
  have rej : ¬ (bR 0 ((s.1 164 19).toInt - 1) p = true ∧ bR 0 ((s.1 164 18).toInt - 1) q = true ∧ s.1 172 p.toNatClampNeg = 2) → zc l g (d + 6) M_X8_out [.ref 164, .int p, .int q] s (zKi fun r' s10 => (-1 : Int32) = r' ∧ Q s10) := by
    intro w
    have h0 : (-1 : Int32) = -1 ∧ Q s := ⟨rfl, h1 s zE_r hC⟩
    refine t_X8_out hC.1 (m_isThing hC.1 hT.1.1 ⟨rfl, ?_⟩)
    by_cases a1 : bR 0 ((s.1 164 19).toInt - 1) p = true
    rotate_left
    · rw [if_neg a1]; exact h0
    rw [if_pos a1]
    refine m_isSeer hC.1 hS.1.1 ⟨rfl, ?_⟩
    by_cases a2 : bR 0 ((s.1 164 18).toInt - 1) q = true
    rotate_left
    · rw [if_neg a2]; exact h0
    rw [if_pos a2]
    refine ⟨(thN hT a1).2.2, ?_⟩
    rw [if_neg (fun a3 => w ⟨a1, a2, a3⟩)]; exact h0
  refine t_X7_out hC.1 (c_isThing hC.1 (by rw [hT.2.1]; exact hT.1.1) ⟨rfl, ?_⟩)
  rw [hT.2.1]
  by_cases a1 : bR 0 ((s.1 164 19).toInt - 1) p = true
  rotate_left
  · rw [if_neg a1]; exact rej (fun w => a1 w.1)
  rw [if_pos a1]
  refine c_isSeer hC.1 (by rw [hS.2.1]; exact hS.1.1) ⟨rfl, ?_⟩
  rw [hS.2.1]
  by_cases a2 : bR 0 ((s.1 164 18).toInt - 1) q = true
  rotate_left
  · rw [if_neg a2]; exact rej (fun w => a2 w.2.1)
  rw [if_pos a2]
  obtain ⟨v1, v2, v3⟩ := thN hT a1
  obtain ⟨w1, w2⟩ := seN hS a2
  have ho := hT.2.2.1 _ v1
  refine ⟨v3, ?_⟩
  rw [ho.1]
  by_cases k2 : s.1 172 p.toNatClampNeg = 2
  rotate_left
  · rw [if_neg k2]; exact rej (fun w => k2 w.2.2)
  rw [if_pos k2]
  refine ⟨v3, ?_⟩
  intro v7 e7
  have o2 := (ho.2.resolve_left (fun w => absurd (k2.symm.trans w.1) (by decide))).2.2.2.2.2.2.2.resolve_left (fun w => absurd (k2.symm.trans w.1) (by decide))
  rw [o2.2.1] at e7
  have b1 := bR_t.mp o2.2.2.2.1
  have b2 := bR_t.mp o2.2.2.2.2.1
  have b3 := o2.2.2.2.2.2.1
  have eF : s.1 173 p.toNatClampNeg = nI (s.1 173 p.toNatClampNeg).toNatClampNeg := ti_of b1.1
  have eL : s.1 174 p.toNatClampNeg = nI (s.1 174 p.toNatClampNeg).toNatClampNeg := ti_of b2.1
  have tF := ti_tn b1.1
  have tL := ti_tn b2.1
  generalize hF : (s.1 173 p.toNatClampNeg).toNatClampNeg = F at *
  generalize hLL : (s.1 174 p.toNatClampNeg).toNatClampNeg = L at *
  rw [eF] at e7
  subst e7
  refine c_out_47 (s0 := s) (d := d + 1) w2 (t := p.toNatClampNeg) (L := L) w1 v1 (by rw [o2.2.2.1]; exact eL) (by omega) (L + 1 - F) F false s (by omega) zE_r hC ?_
  intro s1 hE1 hC1
  have hT1 := hC1.2.2.2.1
  have hS1 := hC1.2.2.2.2.1
  have e19 : s1.1 164 19 = s.1 164 19 := hE1.2 _ _ (by simp [lkS])
  have e18 : s1.1 164 18 = s.1 164 18 := hE1.2 _ _ (by simp [lkS])
  refine t_X8_out hC1.1 (m_isThing hC1.1 hT1.1.1 ⟨rfl, ?_⟩)
  rw [e19, if_pos a1]
  refine m_isSeer hC1.1 hS1.1.1 ⟨rfl, ?_⟩
  rw [e18, if_pos a2]
  refine ⟨v3, ?_⟩
  rw [show s1.1 172 p.toNatClampNeg = s.1 172 p.toNatClampNeg from hE1.2 _ _ (by simp [lkS]), if_pos k2]
  refine ⟨v3, ?_⟩
  intro v8 e8
  rw [show s1.1 173 p.toNatClampNeg = s.1 173 p.toNatClampNeg from hE1.2 _ _ (by simp [lkS]), eF] at e8
  subst e8
  refine m_out_38 (s0 := s) (d := d) v3 w2 (F := F) (L := L) v1 k2 eF eL (by omega) (by omega) (L + 1 - F) F false s1 (by omega) hE1 hC1 ?_
  intro s2 hE2 hC2
  exact ⟨rfl, h1 s2 (lk_f hE2) hC2⟩
end OUV
