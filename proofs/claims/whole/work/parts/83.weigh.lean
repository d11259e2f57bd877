/-! ===== ask: the class weighs the minutes of a telling ===== -/
def wkS (k : Nat) : Nat → Nat → Prop := fun o j => o = 68 ∨ o = 72 ∨ (o = 104 + k ∧ 9 ≤ j)
theorem wk_g {k : Nat} (hk : k < 60) : ∀ o j, wkS k o j → gSc o j := fun o j w => by unfold wkS at w; unfold gSc; omega
def w11 (k : Nat) : Nat → Nat → Prop := fun o j => o = 104 + k ∧ (j = 11 ∨ j = 12 ∨ j = 13)
theorem Core_11 {k : Nat} (hk : k < 60) {s s' : zS} (h : zE (w11 k) s s') (hC : Core s) : Core s' := by
  refine Core_k h (fun o j w => by unfold w11 at w; omega) hC (RelF_k hC.2.2.2.2.2.1 (eqM_g (S := w11 k) (fun o j w => by unfold w11 at w; unfold gSc; omega) h) ?_ ?_ hC.2.2.2.2.2.2)
  · exact h.2 64 10 (by unfold w11; omega)
  · intro q hq
    exact ⟨h.2 _ _ (by unfold w11; omega), h.2 _ _ (by unfold w11; omega)⟩
section WE
variable {l : Launch} {g : zG} {d : Nat} {s0 : zS} {K : zS → Prop}
theorem c_weigh_53 {k L : Nat} (hC0 : Core s0) (hk : k < nK s0.1) (hL : s0.1 (183 + k) 2 = nI L) (hL2 : L < 240) (hK : ∀ s', zE (wkS k) s0 s' → Core s' → s'.1 (104 + k) 13 = s0.1 64 10 → s'.1 (104 + k) 11 = nI (askF s0.1 k).1 → s'.1 (104 + k) 12 = nI (askF s0.1 k).2 → K s') :
    ∀ m n c b s, n + m = L + 1 → zE (wkS k) s0 s → Core s → s.1 (104 + k) 13 = s0.1 64 10 → s.1 (104 + k) 11 = nI c → s.1 (104 + k) 12 = nI b → c ≤ 288 → askL (parK s0.1 k) m n c b = askF s0.1 k →
    zt l g (d + 6) M_X7_weighMinutes 53 [.ref 64, .ref (104 + k), .int (nI (fitB s0.1 k)), .int (nI n), zJ] [] s (zKv K) := by
  obtain ⟨-, -, n60⟩ := Core_c7 hC0
  obtain ⟨-, -, n12⟩ := Core_c5 hC0
  have hl := hC0.2.2.2.2.2.1.2.2 k hk
  obtain ⟨w1, w2⟩ := seN hC0.2.2.2.2.1 hl.2.1
  obtain ⟨-, f1, f2⟩ := fitF_B (I := s0.1) (k := k) n12
  intro m
  induction m with
  | zero =>
    intro n c b s hn hE hC h13 h11 h12 hc he
    refine t_X7_weighMinutes_53 hC.1 (by omega) ?_
    rw [rowc_g (wk_g (by omega)) hE hC hk (by decide), hL, if_pos (nI_lt (by omega) (by omega))]
    unfold askL at he
    refine hK s hE hC h13 ?_ ?_
    · rw [h11, ← he]
    · rw [h12, ← he]
  | succ m ih =>
    intro n c b s hn hE hC h13 h11 h12 hc he
    have hg := wk_g (k := k) (by omega)
    have hM := eqM_g hg hE
    refine t_X7_weighMinutes_53 hC.1 (by omega) ?_
    rw [rowc_g hg hE hC hk (by decide), rowc_g hg hE hC hk (by decide), hL, if_neg (nI_nlt (by omega) (by omega)), ← nI_succ]
    refine c_couples (d := d) (f := fitB s0.1 k) hC w2 (by unfold nS at *; rw [hM 164 18 (by simp [mS])]; exact w1) (bR_t.mpr (by rw [nI_toInt (by omega)]; omega)) f2 (by rw [(nT_g hg hE).1]; exact f1) (fun s1 hE1 hC1 => ⟨zE_R hE1, ?_⟩)
    rw [parN_c hM, show parN s0.1 (s0.1 (183 + k) 0).toNatClampNeg (fitB s0.1 k) (nI n) = parK s0.1 k n from rfl]
    have e1 : ∀ j, s1.1 (104 + k) j = s.1 (104 + k) j := fun j => hE1.2 _ _ (by unfold ckS; omega)
    have hE2 := zE_t hE (zE_m (T := wkS k) hE1 (fun o j w => by unfold ckS at w; unfold wkS; omega))
    have hP := parK_le (I := s0.1) n12 k n
    rw [e1, h11]
    unfold askL at he
    by_cases c1 : nI (parK s0.1 k n) ≤ nI c
    · rw [if_pos c1]
      rw [nI_leI (by omega) (by omega)] at c1
      rw [if_neg (by omega)] at he
      exact ih (n + 1) c b s1 (by omega) hE2 hC1 (by rw [e1]; exact h13) (by rw [e1]; exact h11) (by rw [e1]; exact h12) hc he
    · rw [if_neg c1]
      rw [nI_leI (by omega) (by omega)] at c1
      rw [if_pos (by omega)] at he
      refine ih (n + 1) _ n _ (by omega) (zE_i (zE_i hE2 (Or.inr (Or.inr ⟨rfl, by decide⟩))) (Or.inr (Or.inr ⟨rfl, by decide⟩))) (Core_11 (k := k) (by omega) (zE_i (zE_i0 ⟨rfl, Or.inl rfl⟩) ⟨rfl, Or.inr (Or.inl rfl)⟩) hC1) ?_ ?_ ?_ hP he
      · rw [zI_k (by decide), zI_k (by decide), e1]; exact h13
      · rw [zI_k (by decide), zI_eq]
      · rw [zI_eq]
theorem RelA_w {k : Nat} {s s' : zS} (hC : Core s) (hk : k < nK s.1) (hE : zE (wkS k) s s') (h13 : s'.1 (104 + k) 13 = s.1 64 10) (h11 : s'.1 (104 + k) 11 = nI (askF s.1 k).1) (h12 : s'.1 (104 + k) 12 = nI (askF s.1 k).2) (hA : RelA s.1) : RelA s'.1 := by
  obtain ⟨-, -, n60⟩ := Core_c7 hC
  have hM := eqM_g (wk_g (k := k) (by omega)) hE
  have e10 : s'.1 64 10 = s.1 64 10 := hE.2 _ _ (by unfold wkS; omega)
  have en := (nK_g (wk_g (k := k) (by omega)) hE).1
  have hF := hC.2.2.2.2.2.2.1
  intro q hq
  rw [en] at hq
  rw [e10, askF_c hM (by omega)]
  by_cases w : q = k
  · subst w
    rw [h13, h11, h12]
    exact ⟨by omega, Int.le_refl _, fun _ => ⟨rfl, rfl⟩⟩
  · have e : ∀ j, s'.1 (104 + q) j = s.1 (104 + q) j := fun j => hE.2 _ _ (by unfold wkS; omega)
    rw [e, e, e]
    exact hA q hq
theorem c_weigh {k : Nat} (hC : Core s0) (hA : RelA s0.1) (hk : k < nK s0.1) (hK : ∀ s', zE (wkS k) s0 s' → Core s' → RelA s'.1 → s'.1 (104 + k) 11 = nI (askF s0.1 k).1 → s'.1 (104 + k) 12 = nI (askF s0.1 k).2 → K s') :
    zc l g (d + 7) M_X7_weighMinutes [.ref 64, .ref (104 + k)] s0 (zKv K) := by
  obtain ⟨-, -, n60⟩ := Core_c7 hC
  obtain ⟨-, -, n12⟩ := Core_c5 hC
  have hl := hC.2.2.2.2.2.1.2.2 k hk
  obtain ⟨w1, w2⟩ := seN hC.2.2.2.2.1 hl.2.1
  obtain ⟨e0, f1, f2⟩ := fitF_B (I := s0.1) (k := k) n12
  have b1 := bR_t.mp hl.2.2.1
  have b2 := bR_t.mp hl.2.2.2.1
  have b3 := hl.2.2.2.2.1
  have eF := ti_of b1.1
  have eL := ti_of b2.1
  have tF := ti_tn b1.1
  have tL := ti_tn b2.1
  refine t_X7_weighMinutes hC.1 (by omega) ?_
  by_cases c : s0.1 (104 + k) 13 = s0.1 64 10
  · rw [if_pos c]
    have ha := (hA k hk).2.2 c
    exact hK s0 zE_r hC hA ha.1 ha.2
  rw [if_neg c]
  refine c_fittingOf (d := d) hC.1 hC.2.1 hC.2.2.1 hC.2.2.2.1 hC.2.2.2.2.1 hC.2.2.2.2.2.1 hC.2.2.2.2.2.2 hk ?_
  intro s1 hE1 hF1
  refine ⟨zE_R hE1, ?_⟩
  have hC1 : Core s1 := Core_k hE1 (fun o j w => by unfold cfS at w; omega) hC hF1
  have hW1 : zE (wkS k) s0 s1 := zE_m hE1 (fun o j w => by unfold cfS at w; unfold wkS; omega)
  have e10 : s1.1 64 10 = s0.1 64 10 := hE1.2 _ _ (by unfold cfS; omega)
  rw [rowc_g (wk_g (k := k) (by omega)) hW1 hC1 hk (by decide), e0, e10, zbc_n n12 f1, eF]
  have zE2 : zE (wkS k) s0 (zI (zI (zI s1 (104 + k) 11 0) (104 + k) 12 (nI (s0.1 (183 + k) 1).toNatClampNeg)) (104 + k) 13 (s0.1 64 10)) :=
    zE_i (zE_i (zE_i hW1 (Or.inr (Or.inr ⟨rfl, by decide⟩))) (Or.inr (Or.inr ⟨rfl, by decide⟩))) (Or.inr (Or.inr ⟨rfl, by decide⟩))
  have zC2 : Core (zI (zI (zI s1 (104 + k) 11 0) (104 + k) 12 (nI (s0.1 (183 + k) 1).toNatClampNeg)) (104 + k) 13 (s0.1 64 10)) :=
    Core_11 (k := k) (by omega) (zE_i (zE_i (zE_i0 ⟨rfl, Or.inl rfl⟩) ⟨rfl, Or.inr (Or.inl rfl)⟩) ⟨rfl, Or.inr (Or.inr rfl)⟩) hC1
  have v13 : (zI (zI (zI s1 (104 + k) 11 0) (104 + k) 12 (nI (s0.1 (183 + k) 1).toNatClampNeg)) (104 + k) 13 (s0.1 64 10)).1 (104 + k) 13 = s0.1 64 10 := by rw [zI_eq]
  have v12 : (zI (zI (zI s1 (104 + k) 11 0) (104 + k) 12 (nI (s0.1 (183 + k) 1).toNatClampNeg)) (104 + k) 13 (s0.1 64 10)).1 (104 + k) 12 = nI (s0.1 (183 + k) 1).toNatClampNeg := by rw [zI_k (by decide), zI_eq]
  have v11 : (zI (zI (zI s1 (104 + k) 11 0) (104 + k) 12 (nI (s0.1 (183 + k) 1).toNatClampNeg)) (104 + k) 13 (s0.1 64 10)).1 (104 + k) 11 = nI 0 := by rw [zI_k (by decide), zI_k (by decide), zI_eq]; rfl
  generalize zI (zI (zI s1 (104 + k) 11 0) (104 + k) 12 (nI (s0.1 (183 + k) 1).toNatClampNeg)) (104 + k) 13 (s0.1 64 10) = s2 at *
  have fin : ∀ s', zE (wkS k) s0 s' → Core s' → s'.1 (104 + k) 13 = s0.1 64 10 → s'.1 (104 + k) 11 = nI (askF s0.1 k).1 → s'.1 (104 + k) 12 = nI (askF s0.1 k).2 → K s' :=
    fun s' a1 a2 a3 a4 a5 => hK s' a1 a2 (RelA_w hC hk a1 a3 a4 a5 hA) a4 a5
  have hb := bC_le (b := btN (fitB s0.1 k)) (nT s0.1)
  by_cases c2 : (2 : Int32) ≤ nI (bC (btN (fitB s0.1 k)) (nT s0.1))
  · rw [if_pos c2]
    exact c_weigh_53 (s0 := s0) (d := d + 1) (L := (s0.1 (183 + k) 2).toNatClampNeg) hC hk eL (by omega) fin ((s0.1 (183 + k) 2).toNatClampNeg + 1 - (s0.1 (183 + k) 1).toNatClampNeg) _ 0 _ s2 (by omega) zE2 zC2 v13 v11 v12 (by omega) rfl
  · rw [if_neg c2]
    rw [show (2 : Int32) = nI 2 from rfl, nI_leI (by decide) (by omega)] at c2
    have p0 : ∀ n, parK s0.1 k n = 0 := fun n => rr_few _ (by omega)
    have ea : askF s0.1 k = (0, (s0.1 (183 + k) 1).toNatClampNeg) := askL_0 p0 _ _ _
    exact fin s2 zE2 zC2 v13 (by rw [ea]; exact v11) (by rw [ea]; exact v12)
end WE
