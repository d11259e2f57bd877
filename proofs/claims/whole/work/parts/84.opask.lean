/-! ===== ask: both sides ===== -/
def akS : Nat → Nat → Prop := fun o j => fS o j ∨ o = 72 ∨ (104 ≤ o ∧ o < 164 ∧ 9 ≤ j)
theorem okS_ak : okS akS := ⟨fun _ _ h => Or.inl h, fun o j h => by unfold akS fS at h; unfold gSc; omega⟩
def globL (I : zM2) : Nat → Nat → Int32 × Int32 × Nat → Int32 × Int32 × Nat
  | 0, _, c => c
  | m + 1, i, c => globL I m (i + 1) (if c.2.2 < (askF I i).1 then (nI i, nI (askF I i).2, (askF I i).1) else c)
def askR (w : Int32) (c : Int32 × Int32 × Nat) : Int32 := if c.1 = -1 then -1 else if w = 0 then c.1 else if w = 1 then c.2.1 else if w = 2 then nI c.2.2 else -1
/-- the best so far, found at a telling below i -/
def gok (I : zM2) (i : Nat) (c : Int32 × Int32 × Nat) : Prop := c.2.2 ≤ 288 ∧ (c.1 = -1 ∨ ∃ k, k < i ∧ c = (nI k, nI (askF I k).2, (askF I k).1))
theorem askF_le {I : zM2} (hT : nT I ≤ 12) (k : Nat) : (askF I k).1 ≤ 288 := by
  have h : ∀ m n c b, c ≤ 288 → (askL (parK I k) m n c b).1 ≤ 288 := by
    intro m
    induction m with
    | zero => intro n c b h; exact h
    | succ m ih =>
      intro n c b h
      unfold askL
      by_cases w : c < parK I k n
      · rw [if_pos w]; exact ih _ _ _ (parK_le hT k n)
      · rw [if_neg w]; exact ih _ _ _ h
  exact h _ _ _ _ (by omega)
theorem gok_s {I : zM2} {i : Nat} {c : Int32 × Int32 × Nat} (hT : nT I ≤ 12) (h : gok I i c) : gok I (i + 1) (if c.2.2 < (askF I i).1 then (nI i, nI (askF I i).2, (askF I i).1) else c) := by
  by_cases w : c.2.2 < (askF I i).1
  · rw [if_pos w]; exact ⟨askF_le hT i, Or.inr ⟨i, by omega, rfl⟩⟩
  · rw [if_neg w]
    refine ⟨h.1, h.2.imp id (fun ⟨k, a, b⟩ => ⟨k, by omega, b⟩)⟩
section AK
variable {l : Launch} {g : zG} {d : Nat} {s0 : zS} {w : Int32} {K : Int32 → zS → Prop}
theorem c_ask_7 (hK : ∀ s', zE akS s0 s' → Core s' → RelA s'.1 → K (askR w (globL s0.1 (nK s0.1) 0 (-1, -1, 0))) s') :
    ∀ m i c s, i + m = nK s0.1 → zE akS s0 s → Core s → RelA s.1 → globL s0.1 m i c = globL s0.1 (nK s0.1) 0 (-1, -1, 0) → gok s0.1 i c → (∀ k, k < i → c.1 = nI k → s.1 (104 + k) 12 = c.2.1) →
    zt l g (d + 8) M_X7_ask 7 [.ref 64, .int w, .int c.1, .int (nI c.2.2), .int (nI i)] [] s (zKi K) := by
  intro m
  induction m with
  | zero =>
    intro i c s hi hE hC hA he hg h12
    obtain ⟨e7, -, n60⟩ := Core_c7 hC
    have nk := (nK_g okS_ak.2 hE).1
    refine t_X7_ask_7 hC.1 ?_
    rw [e7, if_pos (nI_le (by omega) (by omega))]
    have hk := hK s hE hC hA
    rw [← he] at hk
    have hk2 : K (askR w c) s := hk
    unfold askR at hk2
    by_cases c1 : c.1 = -1
    · rw [if_pos c1] at hk2 ⊢; exact hk2
    rw [if_neg c1] at hk2 ⊢
    by_cases w0 : w = 0
    · rw [if_pos w0] at hk2 ⊢; exact hk2
    rw [if_neg w0] at hk2 ⊢
    by_cases w1 : w = 1
    · rw [if_pos w1] at hk2 ⊢
      obtain ⟨k, a, b⟩ := hg.2.resolve_left c1
      have b1 : c.1 = nI k := by rw [b]
      have h12k := h12 k a b1
      rw [b1, nI_clamp (by omega), h12k]
      exact ⟨vp_in_nI (by omega) (by decide), hk2⟩
    rw [if_neg w1] at hk2 ⊢
    by_cases w2 : w = 2
    · rw [if_pos w2] at hk2 ⊢; exact hk2
    rw [if_neg w2] at hk2 ⊢; exact hk2
  | succ m ih =>
    intro i c s hi hE hC hA he hg h12
    obtain ⟨e7, -, n60⟩ := Core_c7 hC
    obtain ⟨-, -, n12⟩ := Core_c5 hC
    have nk := (nK_g okS_ak.2 hE).1
    have nt := (nT_g okS_ak.2 hE).1
    have hv : vp_in (nI i) 60 := vp_in_nI (by omega) (by decide)
    refine t_X7_ask_7 hC.1 ?_
    rw [e7, if_neg (nI_ge (by omega) (by omega)), ← nI_succ, nI_clamp (by omega)]
    refine ⟨hv, c_weigh (d := d) hC hA (by omega) (fun s1 hE1 hC1 hA1 b1 b2 => ⟨zE_R hE1, hv, ?_⟩)⟩
    have hM := eqM_g okS_ak.2 hE
    rw [askF_c hM (by omega)] at b1 b2
    have hE2 : zE akS s0 s1 := zE_t hE (zE_m hE1 (fun o j q => by unfold wkS at q; unfold akS fS; omega))
    have hle := askF_le (I := s0.1) (by omega) i
    have gs := gok_s (by omega) hg
    have he2 : globL s0.1 m (i + 1) (if c.2.2 < (askF s0.1 i).1 then (nI i, nI (askF s0.1 i).2, (askF s0.1 i).1) else c) = globL s0.1 (nK s0.1) 0 (-1, -1, 0) := he
    rw [b1]
    have hg1 := hg.1
    by_cases c1 : nI (askF s0.1 i).1 ≤ nI c.2.2
    · rw [if_pos c1]
      rw [nI_leI (by omega) (by omega)] at c1
      rw [if_neg (by omega)] at he2 gs
      refine ih (i + 1) c s1 (by omega) hE2 hC1 hA1 he2 gs (fun k hk e => ?_)
      by_cases q : k = i
      · subst q
        exfalso
        rcases hg.2 with z | ⟨k2, a, b⟩
        · rw [z] at e; exact nI_N1 (by omega) e.symm
        · have : c.1 = nI k2 := by rw [b]
          rw [this, nI_eq (by omega) (by omega)] at e
          omega
      · rw [hE1.2 (104 + k) 12 (by unfold wkS; omega)]
        exact h12 k (by omega) e
    · rw [if_neg c1]
      rw [nI_leI (by omega) (by omega)] at c1
      rw [if_pos (by omega)] at he2 gs
      refine ⟨hv, ?_⟩
      intro v6 e6
      subst e6
      refine ih (i + 1) (nI i, nI (askF s0.1 i).2, (askF s0.1 i).1) s1 (by omega) hE2 hC1 hA1 he2 gs (fun k hk e => ?_)
      have : i = k := (nI_eq (by omega) (by omega)).mp e
      subst this
      exact b2
theorem m_ask_52 {i : Nat} {L : Nat} (hi : i < nK s0.1) (h60 : nK s0.1 ≤ 60) (h12 : nT s0.1 ≤ 12) (hL : s0.1 (183 + i) 2 = nI L) (hL2 : L < 240) (hw : vp_in (s0.1 (183 + i) 0) 20) :
    ∀ m n c s, n + m = L + 1 → zE akS s0 s → Core s → RelA s.1 → c.2.2 ≤ 288 → (∀ s', zE akS s0 s' → Core s' → RelA s'.1 → zt l g (d + 8) M_X8_ask 24 [.ref 164, .int w, .int (refL (parK s0.1 i) i m n c).1, .int (refL (parK s0.1 i) i m n c).2.1, .int (nI (refL (parK s0.1 i) i m n c).2.2), .int (nI (i + 1)), zJ, zJ, zJ] [] s' (zKi K)) →
    zt l g (d + 8) M_X8_ask 52 [.ref 164, .int w, .int c.1, .int c.2.1, .int (nI c.2.2), .int (nI i), .int (nI (fitB s0.1 i)), .int (nI n), zJ] [] s (zKi K) := by
  obtain ⟨-, f1, f2⟩ := fitF_B (I := s0.1) (k := i) h12
  have hv : vp_in (nI i) 60 := vp_in_nI (by omega) (by decide)
  intro m
  induction m with
  | zero =>
    intro n c s hn hE hC hA hc hK
    refine t_X8_ask_52 hC.1 ⟨hv, ?_⟩
    rw [nI_clamp (by omega), row_g okS_ak.2 hE (show i < 60 by omega), hL, if_pos (nI_lt (by omega) (by omega)), ← nI_succ]
    exact hK s hE hC hA
  | succ m ih =>
    intro n c s hn hE hC hA hc hK
    have hM := eqM_g okS_ak.2 hE
    refine t_X8_ask_52 hC.1 ⟨hv, ?_⟩
    rw [nI_clamp (by omega), row_g okS_ak.2 hE (show i < 60 by omega), hL, if_neg (nI_nlt (by omega) (by omega)), ← nI_succ]
    refine m_parted (s0 := s) (d := d + 1) (k := i) zE_r hC hv (nI_clamp (by omega)) (by omega) (by rw [row_g okS_ak.2 hE (by omega)]; exact hw) f2 (fun s1 hR1 hE1 hC1 => ⟨hR1, ?_⟩)
    rw [row_g okS_ak.2 hE (show i < 60 by omega), parN_c hM, show parN s0.1 (s0.1 (183 + i) 0).toNatClampNeg (fitB s0.1 i) (nI n) = parK s0.1 i n from rfl]
    have hP := parK_le (I := s0.1) h12 i n
    have hE2 := zE_t hE (zE_m (T := akS) (lk_f hE1) okS_ak.1)
    have hA2 := RelA_f (lk_f hE1) hC hA
    unfold refL at hK
    by_cases c1 : nI c.2.2 < nI (parK s0.1 i n)
    · rw [if_pos c1]
      have c2 : c.2.2 < parK s0.1 i n := by
        have : ¬ nI (parK s0.1 i n) ≤ nI c.2.2 := by rw [ti_le]; rw [ti_lt] at c1; omega
        rw [nI_leI (by omega) (by omega)] at this
        omega
      simp only [if_pos c2] at hK
      exact ih (n + 1) (nI i, nI n, parK s0.1 i n) s1 (by omega) hE2 hC1 hA2 hP hK
    · rw [if_neg c1]
      have c2 : ¬ c.2.2 < parK s0.1 i n := by
        have : nI (parK s0.1 i n) ≤ nI c.2.2 := by rw [ti_le]; rw [ti_lt] at c1; omega
        rw [nI_leI (by omega) (by omega)] at this
        omega
      simp only [if_neg c2] at hK
      exact ih (n + 1) c s1 (by omega) hE2 hC1 hA2 hc hK
theorem m_ask_24 (hw : bR 0 2 w = true) (hC0 : Core s0) (hK : ∀ s', zE akS s0 s' → Core s' → RelA s'.1 → K (askR w (globL s0.1 (nK s0.1) 0 (-1, -1, 0))) s') :
    ∀ m i c s, i + m = nK s0.1 → zE akS s0 s → Core s → RelA s.1 → globL s0.1 m i c = globL s0.1 (nK s0.1) 0 (-1, -1, 0) → gok s0.1 i c →
    zt l g (d + 8) M_X8_ask 24 [.ref 164, .int w, .int c.1, .int c.2.1, .int (nI c.2.2), .int (nI i), zJ, zJ, zJ] [] s (zKi K) := by
  obtain ⟨-, -, n60⟩ := Core_c7 hC0
  obtain ⟨-, -, n12⟩ := Core_c5 hC0
  intro m
  induction m with
  | zero =>
    intro i c s hi hE hC hA he hg
    obtain ⟨-, e7, -⟩ := Core_c7 hC
    have nk := (nK_g okS_ak.2 hE).1
    refine t_X8_ask_24 hC.1 ?_
    rw [e7, if_pos (nI_le (by omega) (by omega))]
    have hk := hK s hE hC hA
    rw [← he] at hk
    have hk2 : K (askR w c) s := hk
    unfold askR at hk2
    by_cases c1 : c.1 = -1
    · rw [if_pos c1] at hk2 ⊢; exact hk2
    rw [if_neg c1] at hk2 ⊢
    by_cases w0 : w = 0
    · rw [if_pos w0] at hk2 ⊢; exact hk2
    rw [if_neg w0] at hk2 ⊢
    by_cases w1 : w = 1
    · rw [if_pos w1] at hk2 ⊢; exact hk2
    rw [if_neg w1] at hk2 ⊢
    have b := bR_t.mp hw
    have w2 : w = 2 := by
      have a0 : ¬ w.toInt = 0 := fun e => w0 (i32_e e)
      have a1 : ¬ w.toInt = 1 := fun e => w1 (i32_e e)
      refine i32_e ?_
      show w.toInt = 2
      omega
    rw [if_pos w2] at hk2; exact hk2
  | succ m ih =>
    intro i c s hi hE hC hA he hg
    obtain ⟨-, e7, -⟩ := Core_c7 hC
    have nk := (nK_g okS_ak.2 hE).1
    have hv : vp_in (nI i) 60 := vp_in_nI (by omega) (by decide)
    have hl := hC0.2.2.2.2.2.1.2.2 i (by omega)
    obtain ⟨w1, w2⟩ := seN hC0.2.2.2.2.1 hl.2.1
    have b1 := bR_t.mp hl.2.2.1
    have b2 := bR_t.mp hl.2.2.2.1
    have b3 := hl.2.2.2.2.1
    have eF := ti_of b1.1
    have eL := ti_of b2.1
    have tF := ti_tn b1.1
    have tL := ti_tn b2.1
    refine t_X8_ask_24 hC.1 ?_
    rw [e7, if_neg (nI_ge (by omega) (by omega)), nI_clamp (by omega)]
    refine m_fitG (d := d) okS_ak hE hC hv (nI_clamp (by omega)) (by omega) (fun s1 hE1 hE01 hC1 => ⟨zE_R hE1, hv, ?_⟩)
    rw [(fitF_B (I := s0.1) (k := i) n12).1]
    intro v4 e4
    rw [row_g okS_ak.2 hE01 (show i < 60 by omega), eF] at e4
    subst e4
    refine m_ask_52 (s0 := s0) (L := (s0.1 (183 + i) 2).toNatClampNeg) (by omega) n60 n12 eL (by omega) w2 ((s0.1 (183 + i) 2).toNatClampNeg + 1 - (s0.1 (183 + i) 1).toNatClampNeg) _ c s1 (by omega) hE01 hC1 (RelA_f hE1 hC hA) hg.1 (fun s2 hE2 hC2 hA2 => ?_)
    rw [refL_1 (P := parK s0.1 i) (k := i) _ _ 0 (s0.1 (183 + i) 1).toNatClampNeg c (by omega)]
    exact ih (i + 1) (if c.2.2 < (askF s0.1 i).1 then (nI i, nI (askF s0.1 i).2, (askF s0.1 i).1) else c) s2 (by omega) hE2 hC2 hA2 he (gok_s n12 hg)
end AK
section AK2
variable {l : Launch} {g : zG} {d : Nat} {s : zS} {w : Int32}
theorem op_ask {Q : zS → Prop} (hC : Core s) (hA : RelA s.1) (h1 : ∀ s', zE akS s s' → Core s' → RelA s'.1 → Q s') :
    zc l g (d + 8) M_X7_ask [.ref 64, .int w] s (zKi fun r s5 => zc l g (d + 8) M_X8_ask [.ref 164, .int w] s5 (zKi fun r' s10 => r = r' ∧ Q s10)) := by
  have e2 : zinr w.toInt64 0 2 = bR 0 2 w := zq1 rfl rfl
  have g0 : gok s.1 0 (-1, -1, 0) := ⟨by show 0 ≤ 288; omega, Or.inl rfl⟩
  refine t_X7_ask hC.1 (c_ask_7 (s0 := s) (d := d) ?_ (nK s.1) 0 (-1, -1, 0) s (by omega) zE_r hC hA rfl g0 (fun k h => absurd h (by omega)))
  intro s1 hE1 hC1 hA1
  refine t_X8_ask hC1.1 ?_
  rw [e2]
  by_cases c : bR 0 2 w = true
  · rw [if_pos c]
    exact m_ask_24 (s0 := s) (d := d) c hC (fun s2 hE2 hC2 hA2 => ⟨rfl, h1 s2 hE2 hC2 hA2⟩) (nK s.1) 0 (-1, -1, 0) s1 (by omega) hE1 hC1 hA1 rfl g0
  · rw [if_neg c]
    refine ⟨?_, h1 s1 hE1 hC1 hA1⟩
    rw [bR_t] at c
    unfold askR
    split
    · rfl
    · rw [if_neg (fun e => c (by rw [e]; decide)), if_neg (fun e => c (by rw [e]; decide)), if_neg (fun e => c (by rw [e]; decide))]
end AK2
