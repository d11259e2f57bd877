/-! ===== rules: the class reads sums ===== -/
def snS (o : Nat) : Nat → Nat → Prop := fun p k => (p = 75 ∧ k = 5) ∨ (p = o ∧ k = 1) ∨ p = o + 1
def cst (o T : Nat) (f : Nat → Nat) (n : Nat) (s : zS) (j : Nat) (cs : List Int32) : Prop := zRok s ∧ tksI f n T s.1 ∧ T ≤ 400 ∧ s.1 75 5 = nI j ∧ j ≤ T ∧ s.1 o 1 = nI cs.length ∧ cs.length ≤ j ∧ ∀ i, i < cs.length → s.1 (o + 1) i = cs.getD i 0
def cOK (o T : Nat) (f : Nat → Nat) (n : Nat) (F : Nat → pR) (call : zS → (Bool → zS → Prop) → Prop) : Prop :=
  ∀ (s : zS) (j : Nat) (cs : List Int32) (K : Bool → zS → Prop), cst o T f n s j cs → ((F j).1 = true → ∀ s', zE (snS o) s s' → cst o T f n s' (F j).2.1 (cs ++ (F j).2.2) → K true s') → ((F j).1 = false → ∀ s', zE (snS o) s s' → s'.1 75 5 = nI (F j).2.1 → K false s') → call s K
theorem lit_lt {a b : Nat} {c : Int32} (hc : c = nI b) (h : a < b) (hb : b < 2 ^ 31) : nI a < c := by rw [hc]; exact nI_lt h hb
theorem lit_nlt {a b : Nat} {c : Int32} (hc : c = nI b) (h : b ≤ a) (ha : a < 2 ^ 31) : ¬ nI a < c := by rw [hc]; exact nI_nlt h ha
theorem lit_ge {a b : Nat} {c : Int32} (hc : c = nI b) (h : a < b) (hb : b < 2 ^ 31) : ¬ c ≤ nI a := by rw [hc]; exact nI_ge h hb
theorem lit_le {a b : Nat} {c : Int32} (hc : c = nI b) (h : b ≤ a) (ha : a < 2 ^ 31) : c ≤ nI a := by rw [hc]; exact nI_le h ha
theorem tksI_c {f : Nat → Nat} {n T : Nat} {I I' : zM2} (h4 : I' 75 4 = I 75 4) (h7 : ∀ k, I' 77 k = I 77 k) (h8 : ∀ k, I' 78 k = I 78 k) (h : tksI f n T I) : tksI f n T I' := by
  unfold tksI at *
  rw [h4]
  refine ⟨h.1, h.2.1, h.2.2.1, fun j hj => ?_⟩
  rw [h7, h8]; exact h.2.2.2 j hj
theorem tk_pos (f : Nat → Nat) (n j : Nat) : 0 ≤ tkJ f n j := by
  have np : ∀ k : Nat, k < 2 ^ 31 → (0 : Int32) ≤ nI k := fun k h => nI_pos' h
  unfold tkJ
  by_cases c0 : stt f n j < n
  rotate_left
  · rw [if_neg c0]; decide
  rw [if_pos c0]
  unfold tkv
  by_cases c1 : isLt (f (stt f n j)) = true
  · rw [if_pos c1]
    rcases wdL_r (f := f) (s := stt f n j) (e := enn f n j) 18 0 rfl with w | ⟨v, a, w⟩
    · rw [w]; decide
    · rw [w]; exact np _ (by omega)
  rw [if_neg c1]
  by_cases c2 : isDg (f (stt f n j)) = true
  · rw [if_pos c2]
    by_cases c3 : nmT f (stt f n j) (enn f n j) ≤ 9999
    · rw [if_pos c3]; exact np _ (by omega)
    · rw [if_neg c3]; decide
  rw [if_neg c2]
  by_cases c3 : isSg (f (stt f n j)) = true
  · rw [if_pos c3]
    unfold isSg at c3
    simp at c3
    exact np _ (by omega)
  · rw [if_neg c3]; decide
section CPS
variable {l : Launch} {g : zG} {d o T : Nat} {f : Nat → Nat} {n : Nat} {s : zS} {j : Nat} {cs : List Int32}
theorem cst_T (h : cst o T f n s j cs) : tkJ f n T = 30000 := tk_end.mpr (by have := h.2.1.1; omega)
theorem cst_lt (h : cst o T f n s j cs) {c : Int32} (hc : tkJ f n j = c) (h0 : ¬ c = 30000) : j < T := by
  have := cst_T h
  by_cases e : j = T
  · rw [e, this] at hc; exact absurd hc.symm h0
  · have := h.2.2.2.2.1; omega
theorem c_token (h : cst o T f n s j cs) {K : Int32 → zS → Prop} (hK : K (tkJ f n j) s) : zc l g d M_X2_token [.ref 75] s (zKi K) := by
  obtain ⟨hR, ht, h400, h5, hj, -, -, -⟩ := h
  refine t_X2_token hR ?_
  rw [ht.2.2.1, h5, if_neg (nI_ge (by omega) (by omega)), nI_clamp (by omega), (ht.2.2.2 j hj).1]
  exact ⟨vp_in_nI (by omega) (by decide), hK⟩
theorem cst_adv (ho : o = 79 ∨ o = 85) (h : cst o T f n s j cs) (hj : j < T) : s.1 75 5 + 1 = nI (j + 1) ∧ zE (snS o) s (zI s 75 5 (nI (j + 1))) ∧ cst o T f n (zI s 75 5 (nI (j + 1))) (j + 1) cs := by
  obtain ⟨hR, ht, h400, h5, -, h1, h2, h3⟩ := h
  refine ⟨by rw [h5, ← nI_succ], zE_i0 (Or.inl ⟨rfl, rfl⟩), hR, tksI_c (zI_k (by decide)) (fun k => zI_o (by decide)) (fun k => zI_o (by decide)) ht, h400, by rw [zI_eq], hj, by rw [zI_o (by omega)]; exact h1, by omega, fun i hi => by rw [zI_o (by omega)]; exact h3 i hi⟩
theorem c_take (ho : o = 79 ∨ o = 85) (h : cst o T f n s j cs) {c : Int32} (hc : ¬ c = 30000) {K : Bool → zS → Prop} (h1 : tkJ f n j = c → j < T → zE (snS o) s (zI s 75 5 (nI (j + 1))) → cst o T f n (zI s 75 5 (nI (j + 1))) (j + 1) cs → K true (zI s 75 5 (nI (j + 1)))) (h2 : ¬ tkJ f n j = c → K false s) : zc l g d M_X2_take [.ref 75, .int c] s (zKz K) := by
  have h' := h
  obtain ⟨hR, ht, h400, h5, hj, -, -, -⟩ := h
  refine t_X2_take hR ?_
  rw [ht.2.2.1, h5, if_neg (nI_ge (by omega) (by omega)), nI_clamp (by omega), (ht.2.2.2 j hj).1, ← nI_succ]
  refine ⟨vp_in_nI (by omega) (by decide), ?_⟩
  by_cases w : tkJ f n j = c
  · rw [if_pos w]
    have hlt := cst_lt h' w hc
    obtain ⟨-, a2, a3⟩ := cst_adv ho h' hlt
    exact h1 w hlt a2 a3
  · rw [if_neg w]; exact h2 w
theorem c_emit (ho : o = 79 ∨ o = 85) (h : cst o T f n s j cs) (hl : cs.length < j) {c : Int32} {K : zS → Prop} (hK : ∀ s', zE (snS o) s s' → cst o T f n s' j (cs ++ [c]) → K s') : zc l g d M_X3_emit [.ref o, .int c] s (zKv K) := by
  obtain ⟨hR, ht, h400, h5, hj, h1, h2, h3⟩ := h
  refine t_X3_emit hR ho ?_
  have e1 : ∀ v, (zI s (o + 1) cs.length v).1 o 1 = s.1 o 1 := fun v => zI_o (by omega)
  rw [h1, if_neg (by rw [ti_le, nI_toInt (by omega), show (400 : Int32).toInt = 400 from rfl]; omega), nI_clamp (by omega), e1, h1, ← nI_succ]
  refine ⟨vp_in_nI (by omega) (by decide), hK _ (zE_i (zE_i0 (Or.inr (Or.inr rfl))) (Or.inr (Or.inl ⟨rfl, rfl⟩))) ⟨hR, ?_, h400, ?_, hj, ?_, by simp; omega, fun i hi => ?_⟩⟩
  · exact tksI_c (by rw [zI_o (by omega), zI_o (by omega)]) (fun k => by rw [zI_o (by omega), zI_o (by omega)]) (fun k => by rw [zI_o (by omega), zI_o (by omega)]) ht
  · rw [zI_o (by omega), zI_o (by omega)]; exact h5
  · rw [zI_eq]; simp
  · rw [zI_o (by omega)]
    by_cases e : i = cs.length
    · rw [e, zI_eq]
      simp
    · have hi2 : i < cs.length := by simp at hi; omega
      rw [zI_k e, h3 i hi2, List.getD_eq_getElem?_getD, List.getD_eq_getElem?_getD, List.getElem?_append_left hi2]
theorem val_t (j : Nat) : isVal (tkJ f n j) = true ↔ (tkJ f n j ≤ 9999 ∨ (¬ tkJ f n j < 10011 ∧ ¬ 10018 ≤ tkJ f n j)) := by
  have h0 := tk_pos f n j
  unfold isVal
  simp only [Bool.and_eq_true, Bool.or_eq_true, decide_eq_true_eq]
  rw [ti_le] at h0
  simp only [ti_lt, ti_le]
  omega
theorem c_factor (ho : o = 79 ∨ o = 85) {k : Nat} (hk : k ≤ 8) (hS : ∀ S', pSub (tkJ f n) k = some S' → cOK o T f n S' (fun s K => zc l g d M_X2_readSum [.ref 75, .ref o, .int (nI (8 - k + 1))] s (zKz K))) : cOK o T f n (pFac (tkJ f n) (pSub (tkJ f n) k)) (fun s K => zc l g (d + 1) M_X2_readFactor [.ref 75, .ref o, .int (nI (8 - k))] s (zKz K)) := by
  intro s j cs K h hT hF
  have hR := h.1
  refine t_X2_readFactor hR ho (c_token h ⟨rfl, ?_⟩)
  have hv := val_t (f := f) (n := n) j
  have emit : isVal (tkJ f n j) = true → zc l g d M_X3_emit [.ref o, .int (tkJ f n j)] (zI s 75 5 (s.1 75 5 + 1)) (zKv (fun s3 => s3.2.2.1 = s.2.2.1 ∧ K true s3)) := by
    intro c
    rw [pFac_v c] at hT
    have hlt : j < T := cst_lt h rfl (fun e => by rw [e] at c; exact absurd c (by decide))
    obtain ⟨a1, a2, a3⟩ := cst_adv ho h hlt
    rw [a1]
    refine c_emit ho a3 (by have := h.2.2.2.2.2.2.1; omega) (fun s' hE hc => ⟨?_, hT rfl s' (zE_t a2 hE) hc⟩)
    rw [zE_R hE]; rfl
  by_cases c1 : tkJ f n j ≤ 9999
  · rw [if_pos c1]; exact emit (hv.mpr (Or.inl c1))
  rw [if_neg c1]
  by_cases c2 : tkJ f n j < 10011
  · rw [if_pos c2]
    have n1 : ¬ tkJ f n j = 20040 := fun e => by rw [e] at c2; exact absurd c2 (by decide)
    have n2 : ¬ isVal (tkJ f n j) = true := fun w => by rcases hv.mp w with w | w; exact c1 w; exact w.1 c2
    rw [if_neg n1]
    rw [pFac_n n2 n1] at hF
    exact hF rfl s zE_r h.2.2.2.1
  rw [if_neg c2]
  by_cases c3 : 10018 ≤ tkJ f n j
  rotate_left
  · rw [if_neg c3]; exact emit (hv.mpr (Or.inr ⟨c2, c3⟩))
  rw [if_pos c3]
  have n2 : ¬ isVal (tkJ f n j) = true := fun w => by rcases hv.mp w with w | w; exact c1 w; exact w.2 c3
  by_cases c4 : tkJ f n j = 20040
  rotate_left
  · rw [if_neg c4]
    rw [pFac_n n2 c4] at hF
    exact hF rfl s zE_r h.2.2.2.1
  rw [if_pos c4]
  cases k with
  | zero =>
    rw [show pSub (tkJ f n) 0 = none from rfl, pFac_0 c4] at hF
    rw [if_neg (by decide)]
    exact hF rfl s zE_r h.2.2.2.1
  | succ k =>
    rw [show pSub (tkJ f n) (k + 1) = some (pSum (tkJ f n) (pSub (tkJ f n) k)) from rfl, pFac_p c4] at hT hF
    unfold pPar at hT hF
    have hS2 := hS _ rfl
    generalize pSum (tkJ f n) (pSub (tkJ f n) k) = S at *
    rw [if_pos (lit_lt (c := 8) (b := 8) rfl (by omega) (by decide)), ← nI_succ]
    have hlt : j < T := cst_lt h c4 (by decide)
    obtain ⟨a1, a2, a3⟩ := cst_adv ho h hlt
    rw [a1]
    refine hS2 _ (j + 1) cs _ a3 (fun r1 s' hE hc => ⟨by rw [zE_R hE]; rfl, ?_⟩) (fun r1 s' hE h5 => ⟨by rw [zE_R hE]; rfl, ?_⟩)
    · rw [if_pos rfl]
      rw [if_pos r1] at hT hF
      refine c_take ho hc (by decide) (fun c5 c6 hE3 hc3 => ⟨rfl, ?_⟩) (fun c5 => ⟨rfl, ?_⟩)
      · rw [if_pos rfl]
        rw [if_pos c5] at hT
        exact hT rfl _ (zE_t a2 (zE_t hE hE3)) hc3
      · rw [if_neg (by decide)]
        rw [if_neg c5] at hF
        exact hF rfl s' (zE_t a2 hE) hc.2.2.2.1
    · rw [if_neg (by decide)]
      rw [if_neg (by rw [r1]; decide)] at hF
      exact hF rfl s' (zE_t a2 hE) h5
theorem c_prod_13 (ho : o = 79 ∨ o = 85) {F : Nat → pR} {dp : Int32} {mm : Nat} {ty : Bool} (hg : gdP T mm ty F) (hF : cOK o T f n F (fun s K => zc l g d M_X2_readFactor [.ref 75, .ref o, .int dp] s (zKz K))) {sB : zS} {cs0 : List Int32} {K : Bool → zS → Prop} :
    ∀ m c j acc s, T - j < m → c < j → zE (snS o) sB s → cst o T f n s j (cs0 ++ acc) → ((lp (tkJ f n) opM F m j acc).1 = true → ∀ s', zE (snS o) sB s' → cst o T f n s' (lp (tkJ f n) opM F m j acc).2.1 (cs0 ++ (lp (tkJ f n) opM F m j acc).2.2) → K true s') → ((lp (tkJ f n) opM F m j acc).1 = false → ∀ s', zE (snS o) sB s' → s'.1 75 5 = nI (lp (tkJ f n) opM F m j acc).2.1 → K false s') →
    zt l g (d + 1) M_X2_readProduct 13 [.ref 75, .ref o, .int dp, .int (nI c)] [] s (zKz K) := by
  intro m
  induction m with
  | zero => intro c j acc s hm; omega
  | succ m ih =>
    intro c j acc s hm hcj hE h hT hN
    have hjT := h.2.2.2.2.1
    have h400 := h.2.2.1
    refine t_X2_readProduct_13 h.1 ho ?_
    rw [if_neg (by rw [ti_le, nI_toInt (by omega), show (400 : Int32).toInt = 400 from rfl]; omega), ← nI_succ]
    unfold lp at hT hN
    refine c_take ho h (by decide) (fun c1 c2 hE1 hc1 => ⟨rfl, ?_⟩) (fun c1 => ⟨rfl, ?_⟩)
    rotate_left
    · rw [if_neg (by decide)]
      have : opM (tkJ f n j) = false := by unfold opM; simpa using c1
      rw [this, if_neg (by decide)] at hT
      exact hT rfl s hE h
    rw [if_pos rfl]
    have cM : opM (tkJ f n j) = true := by unfold opM; simpa using c1
    rw [if_pos cM] at hT hN
    obtain ⟨g1, g2, g3⟩ := hg (j + 1) (by omega)
    refine hF _ (j + 1) _ _ hc1 (fun r1 s2 hE2 hc2 => ⟨zE_R hE2, ?_⟩) (fun r1 s2 hE2 h5 => ⟨zE_R hE2, ?_⟩)
    · rw [if_pos rfl]
      rw [if_pos r1] at hT hN
      obtain ⟨q1, q2, q3⟩ := g3 r1
      have hl := h.2.2.2.2.2.2.1
      refine c_emit ho hc2 (by rw [List.length_append]; omega) (fun s3 hE3 hc3 => ⟨zE_R hE3, ?_⟩)
      refine ih (c + 1) _ (acc ++ (F (j + 1)).2.2 ++ [tkJ f n j]) s3 (by omega) (by omega) (zE_t hE (zE_t hE1 (zE_t hE2 hE3))) ?_ hT hN
      rw [c1]
      simpa [List.append_assoc] using hc3
    · rw [if_neg (by decide)]
      rw [if_neg (by rw [r1]; decide)] at hN
      exact hN rfl s2 (zE_t hE (zE_t hE1 hE2)) h5
theorem c_product (ho : o = 79 ∨ o = 85) {S : Option (Nat → pR)} {dp : Int32} {mm : Nat} {ty : Bool} (hg : gdP T mm ty (pFac (tkJ f n) S)) (hF : cOK o T f n (pFac (tkJ f n) S) (fun s K => zc l g d M_X2_readFactor [.ref 75, .ref o, .int dp] s (zKz K))) : cOK o T f n (pProd (tkJ f n) S) (fun s K => zc l g (d + 1) M_X2_readProduct [.ref 75, .ref o, .int dp] s (zKz K)) := by
  intro s j cs K h hT hN
  unfold pProd chn at hT hN
  have hjT := h.2.2.2.2.1
  have h400 := h.2.2.1
  obtain ⟨g1, g2, g3⟩ := hg j hjT
  refine t_X2_readProduct h.1 ho (hF s j cs _ h (fun r1 s2 hE2 hc2 => ⟨zE_R hE2, ?_⟩) (fun r1 s2 hE2 h5 => ⟨zE_R hE2, ?_⟩))
  · rw [if_pos rfl]
    rw [if_pos r1] at hT hN
    obtain ⟨q1, q2, q3⟩ := g3 r1
    exact c_prod_13 ho hg hF 401 0 _ _ s2 (by omega) (by omega) hE2 hc2 hT hN
  · rw [if_neg (by decide)]
    rw [if_neg (by rw [r1]; decide)] at hN
    exact hN rfl s2 hE2 h5
theorem c_sum_13 (ho : o = 79 ∨ o = 85) {F : Nat → pR} {dp : Int32} {mm : Nat} {ty : Bool} (hg : gdP T mm ty F) (hF : cOK o T f n F (fun s K => zc l g d M_X2_readProduct [.ref 75, .ref o, .int dp] s (zKz K))) {sB : zS} {cs0 : List Int32} {K : Bool → zS → Prop} :
    ∀ m c j acc s, T - j < m → c < j → zE (snS o) sB s → cst o T f n s j (cs0 ++ acc) → ((lp (tkJ f n) opA F m j acc).1 = true → ∀ s', zE (snS o) sB s' → cst o T f n s' (lp (tkJ f n) opA F m j acc).2.1 (cs0 ++ (lp (tkJ f n) opA F m j acc).2.2) → K true s') → ((lp (tkJ f n) opA F m j acc).1 = false → ∀ s', zE (snS o) sB s' → s'.1 75 5 = nI (lp (tkJ f n) opA F m j acc).2.1 → K false s') →
    zt l g (d + 1) M_X2_readSum 13 [.ref 75, .ref o, .int dp, .int (nI c), zJ] [] s (zKz K) := by
  intro m
  induction m with
  | zero => intro c j acc s hm; omega
  | succ m ih =>
    intro c j acc s hm hcj hE h hT hN
    have hjT := h.2.2.2.2.1
    have h400 := h.2.2.1
    refine t_X2_readSum_13 h.1 ho ?_
    rw [if_neg (by rw [ti_le, nI_toInt (by omega), show (400 : Int32).toInt = 400 from rfl]; omega), ← nI_succ]
    unfold lp at hT hN
    refine c_token h ⟨rfl, ?_⟩
    have go : opA (tkJ f n j) = true → zc l g d M_X2_readProduct [.ref 75, .ref o, .int dp] (zI s 75 5 (s.1 75 5 + 1)) (zKz (fun b4 s3 => s3.2.2.1 = s.2.2.1 ∧ (if b4 = true then (zc l g d M_X3_emit [.ref o, .int (tkJ f n j)] s3 (zKv (fun s5 => s5.2.2.1 = s3.2.2.1 ∧ zt l g (d + 1) M_X2_readSum 13 [.ref 75, .ref o, .int dp, .int (nI (c + 1)), zJ] [] s5 (zKz K)))) else K false s3))) := by
      intro cA
      rw [if_pos cA] at hT hN
      have hlt : j < T := cst_lt h rfl (fun e => by rw [e] at cA; exact absurd cA (by decide))
      obtain ⟨a1, a2, a3⟩ := cst_adv ho h hlt
      rw [a1]
      obtain ⟨g1, g2, g3⟩ := hg (j + 1) (by omega)
      refine hF _ (j + 1) _ _ a3 (fun r1 s2 hE2 hc2 => ⟨zE_R (zE_t a2 hE2), ?_⟩) (fun r1 s2 hE2 h5 => ⟨zE_R (zE_t a2 hE2), ?_⟩)
      · rw [if_pos rfl]
        rw [if_pos r1] at hT hN
        obtain ⟨q1, q2, q3⟩ := g3 r1
        have hl := h.2.2.2.2.2.2.1
        refine c_emit ho hc2 (by rw [List.length_append]; omega) (fun s3 hE3 hc3 => ⟨zE_R hE3, ?_⟩)
        refine ih (c + 1) _ (acc ++ (F (j + 1)).2.2 ++ [tkJ f n j]) s3 (by omega) (by omega) (zE_t hE (zE_t a2 (zE_t hE2 hE3))) ?_ hT hN
        simpa [List.append_assoc] using hc3
      · rw [if_neg (by decide)]
        rw [if_neg (by rw [r1]; decide)] at hN
        exact hN rfl s2 (zE_t hE (zE_t a2 hE2)) h5
    by_cases c1 : tkJ f n j = 20043
    · rw [if_pos c1]; exact go (by unfold opA; rw [c1]; decide)
    rw [if_neg c1]
    by_cases c2 : tkJ f n j = 20045
    · rw [if_pos c2]; exact go (by unfold opA; rw [c2]; decide)
    rw [if_neg c2]
    have : opA (tkJ f n j) = false := by unfold opA; rw [decide_eq_false c1, decide_eq_false c2]; rfl
    rw [this, if_neg (by decide)] at hT
    exact hT rfl s hE h
theorem c_sumS (ho : o = 79 ∨ o = 85) {S : Option (Nat → pR)} {dp : Int32} {mm : Nat} {ty : Bool} (hg : gdP T mm ty (pProd (tkJ f n) S)) (hF : cOK o T f n (pProd (tkJ f n) S) (fun s K => zc l g d M_X2_readProduct [.ref 75, .ref o, .int dp] s (zKz K))) : cOK o T f n (pSum (tkJ f n) S) (fun s K => zc l g (d + 1) M_X2_readSum [.ref 75, .ref o, .int dp] s (zKz K)) := by
  intro s j cs K h hT hN
  unfold pSum chn at hT hN
  have hjT := h.2.2.2.2.1
  have h400 := h.2.2.1
  obtain ⟨g1, g2, g3⟩ := hg j hjT
  refine t_X2_readSum h.1 ho (hF s j cs _ h (fun r1 s2 hE2 hc2 => ⟨zE_R hE2, ?_⟩) (fun r1 s2 hE2 h5 => ⟨zE_R hE2, ?_⟩))
  · rw [if_pos rfl]
    rw [if_pos r1] at hT hN
    obtain ⟨q1, q2, q3⟩ := g3 r1
    exact c_sum_13 ho hg hF 401 0 _ _ s2 (by omega) (by omega) hE2 hc2 hT hN
  · rw [if_neg (by decide)]
    rw [if_neg (by rw [r1]; decide)] at hN
    exact hN rfl s2 hE2 h5
theorem c_sumD (ho : o = 79 ∨ o = 85) (hT : tkJ f n T = 30000) : ∀ k, k ≤ 8 → cOK o T f n (pSumD (tkJ f n) k) (fun s K => zc l g (d + 3 * k + 3) M_X2_readSum [.ref 75, .ref o, .int (nI (8 - k))] s (zKz K)) := by
  intro k
  induction k with
  | zero =>
    intro hk
    obtain ⟨g1, g2, g3⟩ := gd_all (t := tkJ f n) hT (k := 0) hk
    exact c_sumS ho g2 (c_product ho g1 (c_factor (d := d) (k := 0) ho hk (fun S' h => by cases h)))
  | succ k ih =>
    intro hk
    obtain ⟨g1, g2, g3⟩ := gd_all (t := tkJ f n) hT (k := k + 1) hk
    refine c_sumS ho g2 (c_product ho g1 (c_factor (d := d + 3 * k + 3) (k := k + 1) ho hk (fun S' h => ?_)))
    cases h
    rw [show 8 - (k + 1) + 1 = 8 - k by omega]
    exact ih (by omega)
end CPS
