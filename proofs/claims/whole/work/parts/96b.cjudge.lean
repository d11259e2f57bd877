/-! ===== rules: the class judges its text ===== -/
section CJU
variable {l : Launch} {g : zG} {d o T : Nat} {f : Nat → Nat} {n : Nat} {sB : zS} {K : Int32 → zS → Prop}
theorem cln_c {s s' : zS} {j : Nat} {q : rQ} (hR : s'.2.2.1 = s.2.2.1) (h75 : ∀ k, s'.1 75 k = s.1 75 k) (h77 : ∀ k, s'.1 77 k = s.1 77 k) (h78 : ∀ k, s'.1 78 k = s.1 78 k) (ho : ∀ k, s'.1 o k = s.1 o k) (h1 : ∀ k, s'.1 (o + 1) k = s.1 (o + 1) k) (h2 : ∀ k, s'.1 (o + 2) k = s.1 (o + 2) k) (h3 : ∀ k, s'.1 (o + 3) k = s.1 (o + 3) k) (h4 : ∀ k, s'.1 (o + 4) k = s.1 (o + 4) k) (h : cln o T f n s j q) : cln o T f n s' j q :=
  ⟨cst_c hR h75 h77 h78 (ho 1) h1 h.1, clq_c (fun k _ => ho k) h2 h3 h4 h.2⟩
theorem zE_ln {s s' : zS} (h : zE (lnS o) s s') : zE (jdS o) s s' := zE_m h (fun p k w => by unfold lnS at w; unfold jdS; omega)
/-- the place of the fault -/
theorem c_fplace {s : zS} {j : Nat} (hR : zRok s) (ht : tksI f n T s.1) (hT : T ≤ 400) (hj : j ≤ T) (h5 : s.1 75 5 = nI j) (h : K (nI (stt f n j)) s) : zc l g d M_X2_faultPlace [.ref 75] s (zKi K) := by
  refine t_X2_faultPlace hR ?_
  rw [ht.2.2.1, h5, if_neg (nI_ge (by omega) (by omega)), nI_clamp (by omega), (ht.2.2.2 j hj).2]
  exact ⟨vp_in_nI (by omega) (by decide), h⟩
theorem c_jud_0 {s : zS} {j : Nat} {c : Int32} (ho : o = 79 ∨ o = 85) (hR : zRok s) (ht : tksI f n T s.1) (hT : T ≤ 400) (hj : j ≤ T) (h5 : s.1 75 5 = nI j) (h : K (nI (stt f n j)) s) : zt l g (d + 1) M_X2_judge 31 [.ref 75, .ref o, .int 0, .int c] [] s (zKi K) := by
  refine t_X2_judge_31 hR ho ?_
  by_cases w : (400 : Int32) ≤ c
  · rw [if_pos w, if_pos rfl]
    exact c_fplace hR ht hT hj h5 ⟨rfl, h⟩
  · rw [if_neg w, if_pos rfl, if_pos rfl]
    exact c_fplace hR ht hT hj h5 ⟨rfl, h⟩
theorem c_jud_1 (ho : o = 79 ∨ o = 85) (hT0 : tkJ f n T = 30000) :
    ∀ m c j q s, T - j < m → c ≤ j → zE (jdS o) sB s → cln o T f n s j q →
    ((pTxt (tkJ f n) m j q).1 = true → ∀ s', zE (jdS o) sB s' → cln o T f n s' (pTxt (tkJ f n) m j q).2.1 (pTxt (tkJ f n) m j q).2.2 → K (-1) s') →
    ((pTxt (tkJ f n) m j q).1 = false → ∀ s', zE (jdS o) sB s' → K (nI (stt f n (pTxt (tkJ f n) m j q).2.1)) s') →
    zt l g (d + 30) M_X2_judge 31 [.ref 75, .ref o, .int 1, .int (nI c)] [] s (zKi K) := by
  intro m
  induction m with
  | zero => intro c j q s hm; omega
  | succ m ih =>
    intro c j q s hm hcj hE h hK1 hK0
    have hT := h.1.2.2.1
    have hjT := h.1.2.2.2.2.1
    have ht := h.1.2.1
    unfold pTxt at hK1 hK0
    have fin : tkJ f n j = 30000 → K (-1) s := by
      intro w
      rw [if_pos w] at hK1
      exact hK1 rfl s hE h
    refine t_X2_judge_31 h.1.1 ho ?_
    by_cases c4 : (400 : Int32) ≤ nI c
    · rw [if_pos c4, if_neg (by decide)]
      rw [show (400 : Int32) = nI 400 from rfl, nI_leI (by decide) (by omega)] at c4
      have : j = T := by omega
      exact fin (by rw [this]; exact hT0)
    rw [if_neg c4, if_neg (by decide)]
    refine c_token h.1 ⟨rfl, ?_⟩
    by_cases c1 : tkJ f n j = 30000
    · rw [if_pos c1, if_neg (by decide)]; exact fin c1
    rw [if_neg c1]
    rw [if_neg c1] at hK1 hK0
    rw [← nI_succ]
    obtain ⟨f1, f2, f3⟩ := gd_line (t := tkJ f n) (q := q) hT0 hjT
    refine c_line (d := d) ho hT0 h (fun r1 s1 hE1 h1 => ⟨zE_R hE1, ?_⟩) (fun r1 s1 hE1 h5 => ⟨zE_R hE1, ?_⟩)
    · rw [if_pos r1] at hK1 hK0
      have := (f3 r1).1
      exact ih (c + 1) _ _ s1 (by omega) (by omega) (zE_t hE (zE_ln hE1)) h1 hK1 hK0
    · rw [if_neg (by rw [r1]; exact Bool.false_ne_true)] at hK0
      have ht1 : tksI f n T s1.1 := tksI_c (hE1.2 _ _ (by unfold lnS; omega)) (fun k => hE1.2 _ _ (by unfold lnS; omega)) (fun k => hE1.2 _ _ (by unfold lnS; omega)) ht
      exact c_jud_0 (d := d + 29) ho (zE_K hE1 h.1.1) ht1 hT f2 h5 (hK0 rfl s1 (zE_t hE (zE_ln hE1)))
theorem c_judge (ho : o = 79 ∨ o = 85) (hR0 : zRok sB) (hx0 : tx f n sB)
    (hK1 : (pAll (tkJ f n)).1 = true → ∀ s' T, zE (jdS o) sB s' → stt f n T = n → (∀ j, j < T → stt f n j < n) → T ≤ n → cln o T f n s' (pAll (tkJ f n)).2.1 (pAll (tkJ f n)).2.2 → K (-1) s')
    (hK0 : (pAll (tkJ f n)).1 = false → ∀ s' T, zE (jdS o) sB s' → stt f n T = n → (∀ j, j < T → stt f n j < n) → T ≤ n → K (nI (stt f n (pAll (tkJ f n)).2.1)) s') :
    zc l g (d + 30) M_X2_judge [.ref 75, .ref o] sB (zKi K) := by
  refine t_X2_judge (d := d + 29) hR0 ho ?_
  refine c_split (d := d + 22) hR0 hx0 (fun s1 T hE1 ht1 hTn => ⟨zE_R hE1, ?_⟩)
  have n4 := hx0.2.1
  have hT0 : tkJ f n T = 30000 := tk_end.mpr (by have := ht1.1; omega)
  have hR1 := zE_K hE1 hR0
  refine t_X3_clear hR1 ho ⟨rfl, ?_⟩
  have hJ1 : zE (jdS o) sB s1 := zE_m hE1 (fun p k w => by unfold tkW at w; unfold jdS; omega)
  have hJ2 : zE (jdS o) sB (zI (zI (zI (zI s1 o 1 0) o 2 0) o 5 0) 75 5 0) :=
    zE_i (zE_i (zE_i (zE_i hJ1 (Or.inr (Or.inr (Or.inr ⟨Nat.le_refl _, by omega⟩)))) (Or.inr (Or.inr (Or.inr ⟨Nat.le_refl _, by omega⟩)))) (Or.inr (Or.inr (Or.inr ⟨Nat.le_refl _, by omega⟩)))) (Or.inr (Or.inr (Or.inl ⟨rfl, Or.inr rfl⟩)))
  have z : ∀ p k, ¬ p = o → ¬ (p = 75 ∧ k = 5) → (zI (zI (zI (zI s1 o 1 0) o 2 0) o 5 0) 75 5 0).1 p k = s1.1 p k := fun p k w1 w2 => by
    rw [zI_1, if_neg w2, zI_o w1, zI_o w1, zI_o w1]
  have h0 : cln o T f n (zI (zI (zI (zI s1 o 1 0) o 2 0) o 5 0) 75 5 0) 0 q00 := by
    refine ⟨⟨zE_K hJ2 hR0, tksI_c (z _ _ (by omega) (by omega)) (fun k => z _ _ (by omega) (by omega)) (fun k => z _ _ (by omega) (by omega)) ht1, by omega, by rw [zI_eq]; rfl, Nat.zero_le _, ?_, Nat.zero_le _, fun i hi => absurd hi (Nat.not_lt_zero i)⟩, ?_, ?_, by decide, fun i hi => absurd hi (Nat.not_lt_zero i)⟩
    · show (zI (zI (zI (zI s1 o 1 0) o 2 0) o 5 0) 75 5 0).1 o 1 = nI 0
      rw [zI_o (by omega), zI_k (by decide), zI_k (by decide), zI_eq]; rfl
    · show (zI (zI (zI (zI s1 o 1 0) o 2 0) o 5 0) 75 5 0).1 o 2 = 0
      rw [zI_o (by omega), zI_k (by decide), zI_eq]
    · show (zI (zI (zI (zI s1 o 1 0) o 2 0) o 5 0) 75 5 0).1 o 5 = nI 0
      rw [zI_o (by omega), zI_eq]; rfl
  have hp := ht1.2.1
  refine c_token h0.1 ⟨rfl, ?_⟩
  unfold pAll at hK1 hK0
  by_cases c : tkJ f n 0 = 30000
  · rw [if_pos c]
    rw [if_pos c] at hK0
    exact c_jud_0 (d := d + 29) ho h0.1.1 h0.1.2.1 (by omega) (Nat.zero_le _) h0.1.2.2.2.1 (hK0 rfl _ T hJ2 ht1.1 hp hTn)
  · rw [if_neg c]
    rw [if_neg c] at hK1 hK0
    exact c_jud_1 (d := d) (sB := sB) ho hT0 401 0 0 q00 _ (by omega) (Nat.le_refl _) hJ2 h0 (fun r1 s' hE' h' => hK1 r1 s' T hE' ht1.1 hp hTn h') (fun r1 s' hE' => hK0 r1 s' T hE' ht1.1 hp hTn)
end CJU
