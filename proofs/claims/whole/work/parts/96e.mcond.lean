/-! ===== rules: the reference reads products, sums, conditions ===== -/
theorem map3 {ms a b : List Int32} {c m : Int32} (h : mu c = m) : ms ++ a.map mu ++ b.map mu ++ [m] = ms ++ (a ++ b ++ [c]).map mu := by
  rw [List.map_append, List.map_append, ← h]
  simp [List.append_assoc]
section MPP
variable {l : Launch} {g : zG} {d T : Nat} {f : Nat → Nat} {n : Nat}
theorem m_prod_10 (hT : stt f n T = n) {F : Nat → pR} {dp : Int32} {mm : Nat} {ty : Bool} (hg : gdP T mm ty F) (hF : mOK f n T F (fun s K => zc l g (d + 1) M_X8_factor [.ref 164, .int dp] s (zKz K))) {sB : zS} {ms0 : List Int32} {K : Bool → zS → Prop} :
    ∀ m j acc s, T - j < m → zE rdS sB s → mst f n T s j (ms0 ++ acc.map mu) → ((lp (tkJ f n) opM F m j acc).1 = true → ∀ s', zE rdS sB s' → mst f n T s' (lp (tkJ f n) opM F m j acc).2.1 (ms0 ++ (lp (tkJ f n) opM F m j acc).2.2.map mu) → K true s') → ((lp (tkJ f n) opM F m j acc).1 = false → ∀ s', zE rdS sB s' → s'.1 164 32 = nI (stt f n (lp (tkJ f n) opM F m j acc).2.1) → K false s') →
    zt l g (d + 2) M_X8_product 10 [.ref 164, .int dp] [] s (zKz K) := by
  intro m
  induction m with
  | zero => intro j acc s hm; omega
  | succ m ih =>
    intro j acc s hm hE h hK1 hK0
    have hml := h.2.2.2.2.2.2.2.2.1
    refine t_X8_product_10 (d := d + 1) h.1 (m_sign h (c := 42) (t := 20042) (by decide) rfl (fun c1 => ⟨rfl, ?_⟩) (fun c1 => ⟨rfl, ?_⟩))
    rotate_left
    · rw [if_neg Bool.false_ne_true]
      unfold lp at hK1
      rw [show opM (tkJ f n j) = false by unfold opM; simpa using c1, if_neg Bool.false_ne_true] at hK1
      exact hK1 rfl s hE h
    rw [if_pos rfl]
    have hj := mst_lt hT h c1 (by decide)
    have cM : opM (tkJ f n j) = true := by unfold opM; simpa using c1
    unfold lp at hK1 hK0
    rw [if_pos cM] at hK1 hK0
    obtain ⟨g1, g2, g3⟩ := hg (j + 1) hj
    refine m_adv (d := d) h hj (fun s1 hE1 h1 => ⟨zE_R hE1, ?_⟩)
    refine hF s1 (j + 1) _ _ h1 (fun r1 s2 hE2 h2 => ⟨zE_R hE2, ?_⟩) (fun r1 s2 hE2 e2 => ⟨zE_R hE2, ?_⟩)
    · rw [if_pos rfl]
      rw [if_pos r1] at hK1 hK0
      obtain ⟨q1, q2, q3⟩ := g3 r1
      refine m_mark h2 (by rw [List.length_append, List.length_map]; omega) (fun s3 hE3 h3 => ⟨zE_R hE3, ?_⟩)
      rw [map3 (c := tkJ f n j) (by rw [c1]; decide)] at h3
      exact ih _ _ s3 (by omega) (zE_t hE (zE_t hE1 (zE_t hE2 hE3))) h3 hK1 hK0
    · rw [if_neg Bool.false_ne_true]
      rw [if_neg (by rw [r1]; exact Bool.false_ne_true)] at hK0
      exact hK0 rfl s2 (zE_t hE (zE_t hE1 hE2)) e2
theorem m_product (hT : stt f n T = n) {S : Option (Nat → pR)} {dp : Int32} {mm : Nat} {ty : Bool} (hg : gdP T mm ty (pFac (tkJ f n) S)) (hF : mOK f n T (pFac (tkJ f n) S) (fun s K => zc l g (d + 1) M_X8_factor [.ref 164, .int dp] s (zKz K))) : mOK f n T (pProd (tkJ f n) S) (fun s K => zc l g (d + 2) M_X8_product [.ref 164, .int dp] s (zKz K)) := by
  intro s j ms K h hK1 hK0
  unfold pProd chn at hK1 hK0
  have h400 := h.2.2.1
  obtain ⟨g1, g2, g3⟩ := hg j h.2.2.2.1
  refine t_X8_product (d := d + 1) h.1 (hF s j ms _ h (fun r1 s2 hE2 h2 => ⟨zE_R hE2, ?_⟩) (fun r1 s2 hE2 e2 => ⟨zE_R hE2, ?_⟩))
  · rw [if_pos rfl]
    rw [if_pos r1] at hK1 hK0
    exact m_prod_10 hT hg hF 401 _ _ s2 (by omega) hE2 h2 hK1 hK0
  · rw [if_neg Bool.false_ne_true]
    rw [if_neg (by rw [r1]; exact Bool.false_ne_true)] at hK0
    exact hK0 rfl s2 hE2 e2
theorem m_sum_10 (hT : stt f n T = n) {F : Nat → pR} {dp : Int32} {mm : Nat} {ty : Bool} (hg : gdP T mm ty F) (hF : mOK f n T F (fun s K => zc l g (d + 1) M_X8_product [.ref 164, .int dp] s (zKz K))) {sB : zS} {ms0 : List Int32} {K : Bool → zS → Prop} :
    ∀ m j acc s, T - j < m → zE rdS sB s → mst f n T s j (ms0 ++ acc.map mu) → ((lp (tkJ f n) opA F m j acc).1 = true → ∀ s', zE rdS sB s' → mst f n T s' (lp (tkJ f n) opA F m j acc).2.1 (ms0 ++ (lp (tkJ f n) opA F m j acc).2.2.map mu) → K true s') → ((lp (tkJ f n) opA F m j acc).1 = false → ∀ s', zE rdS sB s' → s'.1 164 32 = nI (stt f n (lp (tkJ f n) opA F m j acc).2.1) → K false s') →
    zt l g (d + 2) M_X8_sum 10 [.ref 164, .int dp, zJ] [] s (zKz K) := by
  intro m
  induction m with
  | zero => intro j acc s hm; omega
  | succ m ih =>
    intro j acc s hm hE h hK1 hK0
    have hml := h.2.2.2.2.2.2.2.2.1
    have go : ∀ (c M : Int32), tkJ f n j = c → opA c = true → mu c = M → ¬ c = 30000 → zc l g (d + 1) M_X8_next [.ref 164] s (zKv (fun s9 => s9.2.2.1 = s.2.2.1 ∧ (zc l g (d + 1) M_X8_product [.ref 164, .int dp] s9 (zKz (fun b11 s10 => s10.2.2.1 = s9.2.2.1 ∧ (if b11 = true then (zc l g (d + 1) M_X8_mark [.ref 164, .int M] s10 (zKv (fun s12 => s12.2.2.1 = s10.2.2.1 ∧ zt l g (d + 2) M_X8_sum 10 [.ref 164, .int dp, zJ] [] s12 (zKz K)))) else K false s10)))))) := by
      intro c M c1 cA cm c3
      have hj := mst_lt hT h c1 c3
      unfold lp at hK1 hK0
      rw [if_pos (by rw [c1]; exact cA)] at hK1 hK0
      obtain ⟨g1, g2, g3⟩ := hg (j + 1) hj
      refine m_adv (d := d) h hj (fun s1 hE1 h1 => ⟨zE_R hE1, ?_⟩)
      refine hF s1 (j + 1) _ _ h1 (fun r1 s2 hE2 h2 => ⟨zE_R hE2, ?_⟩) (fun r1 s2 hE2 e2 => ⟨zE_R hE2, ?_⟩)
      · rw [if_pos rfl]
        rw [if_pos r1] at hK1 hK0
        obtain ⟨q1, q2, q3⟩ := g3 r1
        refine m_mark h2 (by rw [List.length_append, List.length_map]; omega) (fun s3 hE3 h3 => ⟨zE_R hE3, ?_⟩)
        rw [map3 (c := tkJ f n j) (by rw [c1]; exact cm)] at h3
        exact ih _ _ s3 (by omega) (zE_t hE (zE_t hE1 (zE_t hE2 hE3))) h3 hK1 hK0
      · rw [if_neg Bool.false_ne_true]
        rw [if_neg (by rw [r1]; exact Bool.false_ne_true)] at hK0
        exact hK0 rfl s2 (zE_t hE (zE_t hE1 hE2)) e2
    refine t_X8_sum_10 (d := d + 1) h.1 (m_sign h (c := 43) (t := 20043) (by decide) rfl (fun c1 => ⟨rfl, ?_⟩) (fun c1 => ⟨rfl, ?_⟩))
    · rw [if_pos rfl]
      refine m_sign h (c := 43) (t := 20043) (by decide) rfl (fun c2 => ⟨rfl, ?_⟩) (fun c2 => absurd c1 c2)
      rw [if_pos rfl]
      exact go 20043 20001 c1 (by decide) (by decide) (by decide)
    · rw [if_neg Bool.false_ne_true]
      refine m_sign h (c := 45) (t := 20045) (by decide) rfl (fun c2 => ⟨rfl, ?_⟩) (fun c2 => ⟨rfl, ?_⟩)
      · rw [if_pos rfl]
        refine m_sign h (c := 43) (t := 20043) (by decide) rfl (fun c3 => absurd c3 c1) (fun c3 => ⟨rfl, ?_⟩)
        rw [if_neg Bool.false_ne_true]
        exact go 20045 20002 c2 (by decide) (by decide) (by decide)
      · rw [if_neg Bool.false_ne_true]
        unfold lp at hK1
        rw [show opA (tkJ f n j) = false by unfold opA; rw [decide_eq_false c1, decide_eq_false c2]; rfl, if_neg Bool.false_ne_true] at hK1
        exact hK1 rfl s hE h
theorem m_sumS (hT : stt f n T = n) {S : Option (Nat → pR)} {dp : Int32} {mm : Nat} {ty : Bool} (hg : gdP T mm ty (pProd (tkJ f n) S)) (hF : mOK f n T (pProd (tkJ f n) S) (fun s K => zc l g (d + 1) M_X8_product [.ref 164, .int dp] s (zKz K))) : mOK f n T (pSum (tkJ f n) S) (fun s K => zc l g (d + 2) M_X8_sum [.ref 164, .int dp] s (zKz K)) := by
  intro s j ms K h hK1 hK0
  unfold pSum chn at hK1 hK0
  have h400 := h.2.2.1
  obtain ⟨g1, g2, g3⟩ := hg j h.2.2.2.1
  refine t_X8_sum (d := d + 1) h.1 (hF s j ms _ h (fun r1 s2 hE2 h2 => ⟨zE_R hE2, ?_⟩) (fun r1 s2 hE2 e2 => ⟨zE_R hE2, ?_⟩))
  · rw [if_pos rfl]
    rw [if_pos r1] at hK1 hK0
    exact m_sum_10 hT hg hF 401 _ _ s2 (by omega) hE2 h2 hK1 hK0
  · rw [if_neg Bool.false_ne_true]
    rw [if_neg (by rw [r1]; exact Bool.false_ne_true)] at hK0
    exact hK0 rfl s2 hE2 e2
theorem m_sumD (hT : stt f n T = n) : ∀ k, k ≤ 8 → mOK f n T (pSumD (tkJ f n) k) (fun s K => zc l g (d + 3 * k + 8) M_X8_sum [.ref 164, .int (nI (8 - k))] s (zKz K)) := by
  have hT0 : tkJ f n T = 30000 := tk_end.mpr (by omega)
  intro k
  induction k with
  | zero =>
    intro hk
    obtain ⟨g1, g2, g3⟩ := gd_all (t := tkJ f n) hT0 (k := 0) hk
    exact m_sumS (d := d + 6) hT g2 (m_product (d := d + 5) hT g1 (m_factor (d := d) (k := 0) hT hk (fun S' h => by cases h)))
  | succ k ih =>
    intro hk
    obtain ⟨g1, g2, g3⟩ := gd_all (t := tkJ f n) hT0 (k := k + 1) hk
    have hi := ih (by omega)
    refine m_sumS (d := d + 3 * k + 9) hT g2 (m_product (d := d + 3 * k + 8) hT g1 (m_factor (d := d + 3 * k + 3) (k := k + 1) hT hk (fun S' h => ?_)))
    cases h
    rw [show 8 - (k + 1) + 1 = 8 - k by omega]
    exact hi
theorem m_sum8 (hT : stt f n T = n) : mOK f n T (pSumD (tkJ f n) 8) (fun s K => zc l g (d + 32) M_X8_sum [.ref 164, .int 0] s (zKz K)) := m_sumD (d := d) hT 8 (by omega)
theorem m_compares (hT : stt f n T = n) : mOK f n T (pCmp (tkJ f n)) (fun s K => zc l g (d + 33) M_X8_compares [.ref 164] s (zKz K)) := by
  have hT0 : tkJ f n T = 30000 := tk_end.mpr (by omega)
  have h8 := (gd_all (t := tkJ f n) hT0 (k := 8) (by omega)).2.2
  intro s j ms K h hK1 hK0
  have hml := h.2.2.2.2.2.2.2.2.1
  obtain ⟨g1, g2, g3⟩ := h8 j h.2.2.2.1
  unfold pCmp at hK1 hK0
  refine t_X8_compares (d := d + 32) h.1 (m_sum8 (d := d) hT s j ms _ h (fun r1 s1 hE1 h1 => ⟨zE_R hE1, ?_⟩) (fun r1 s1 hE1 e1 => ⟨zE_R hE1, ?_⟩))
  rotate_left
  · rw [if_neg Bool.false_ne_true]
    rw [if_neg (by rw [r1]; exact Bool.false_ne_true)] at hK0
    exact hK0 rfl s1 hE1 e1
  rw [if_pos rfl]
  rw [if_pos r1] at hK1 hK0
  obtain ⟨q1, q2, q3⟩ := g3 r1
  have go : ∀ (c M : Int32), tkJ f n (pSumD (tkJ f n) 8 j).2.1 = c → isCp c = true → mu c = M → ¬ c = 30000 → zc l g (d + 32) M_X8_passes [.ref 164, .int 1] s1 (zKz (fun b27 s26 => s26.2.2.1 = s1.2.2.1 ∧ (if b27 = true then (zc l g (d + 32) M_X8_sum [.ref 164, .int 0] s26 (zKz (fun b29 s28 => s28.2.2.1 = s26.2.2.1 ∧ (if b29 = true then (zc l g (d + 32) M_X8_mark [.ref 164, .int M] s28 (zKv (fun s30 => s30.2.2.1 = s28.2.2.1 ∧ K true s30))) else K false s28)))) else K false s26))) := by
    intro c M c1 cC cm c3
    have hj := mst_lt hT h1 c1 c3
    rw [if_pos (by rw [c1]; exact cC)] at hK1 hK0
    obtain ⟨p1, p2, p3⟩ := h8 ((pSumD (tkJ f n) 8 j).2.1 + 1) hj
    refine m_pass1 (d := d + 30) h1 hj (fun s2 hE2 h2 => ⟨zE_R hE2, ?_⟩)
    rw [if_pos rfl]
    refine m_sum8 (d := d) hT s2 _ _ _ h2 (fun r3 s3 hE3 h3 => ⟨zE_R hE3, ?_⟩) (fun r3 s3 hE3 e3 => ⟨zE_R hE3, ?_⟩)
    · rw [if_pos rfl]
      rw [if_pos r3] at hK1
      obtain ⟨u1, u2, u3⟩ := p3 r3
      refine m_mark h3 (by rw [List.length_append, List.length_append, List.length_map, List.length_map]; omega) (fun s4 hE4 h4 => ⟨zE_R hE4, ?_⟩)
      rw [map3 (c := tkJ f n (pSumD (tkJ f n) 8 j).2.1) (by rw [c1]; exact cm)] at h4
      exact hK1 rfl s4 (zE_t hE1 (zE_t hE2 (zE_t hE3 hE4))) h4
    · rw [if_neg Bool.false_ne_true]
      rw [if_neg (by rw [r3]; exact Bool.false_ne_true)] at hK0
      exact hK0 rfl s3 (zE_t hE1 (zE_t hE2 hE3)) e3
  refine m_sign h1 (c := 60) (t := 20060) (by decide) rfl (fun c1 => ⟨rfl, ?_⟩) (fun c1 => ⟨rfl, ?_⟩)
  · rw [if_pos rfl]
    refine m_sign h1 (c := 60) (t := 20060) (by decide) rfl (fun c2 => ⟨rfl, ?_⟩) (fun c2 => absurd c1 c2)
    rw [if_pos rfl]
    exact go 20060 20004 c1 (by decide) (by decide) (by decide)
  rw [if_neg Bool.false_ne_true]
  refine m_sign h1 (c := 60) (t := 20060) (by decide) rfl (fun c2 => absurd c2 c1) (fun c2 => ⟨rfl, ?_⟩)
  rw [if_neg Bool.false_ne_true]
  refine m_sign h1 (c := 61) (t := 20061) (by decide) rfl (fun c3 => ⟨rfl, ?_⟩) (fun c3 => ⟨rfl, ?_⟩)
  · rw [if_pos rfl]
    exact go 20061 20005 c3 (by decide) (by decide) (by decide)
  · rw [if_neg Bool.false_ne_true]
    rw [if_neg (fun w => by rcases cp_i.mp w with w | w; exact c1 w; exact c3 w)] at hK0
    exact m_pass0 (d := d + 30) h1 (fun s2 hE2 e2 => ⟨zE_R hE2, by rw [if_neg Bool.false_ne_true]; exact hK0 rfl s2 (zE_t hE1 hE2) e2⟩)
theorem m_hold_9 (hT : stt f n T = n) {sB : zS} {ms0 : List Int32} {K : Bool → zS → Prop} :
    ∀ m j acc s, T - j < m → zE rdS sB s → mst f n T s j (ms0 ++ acc.map mu) → ((lp (tkJ f n) opN (pCmp (tkJ f n)) m j acc).1 = true → ∀ s', zE rdS sB s' → mst f n T s' (lp (tkJ f n) opN (pCmp (tkJ f n)) m j acc).2.1 (ms0 ++ (lp (tkJ f n) opN (pCmp (tkJ f n)) m j acc).2.2.map mu) → K true s') → ((lp (tkJ f n) opN (pCmp (tkJ f n)) m j acc).1 = false → ∀ s', zE rdS sB s' → s'.1 164 32 = nI (stt f n (lp (tkJ f n) opN (pCmp (tkJ f n)) m j acc).2.1) → K false s') →
    zt l g (d + 34) M_X8_holdsRead 9 [.ref 164] [] s (zKz K) := by
  have hT0 : tkJ f n T = 30000 := tk_end.mpr (by omega)
  have hg := gd_cmp (t := tkJ f n) hT0
  intro m
  induction m with
  | zero => intro j acc s hm; omega
  | succ m ih =>
    intro j acc s hm hE h hK1 hK0
    have hml := h.2.2.2.2.2.2.2.2.1
    refine t_X8_holdsRead_9 (d := d + 33) h.1 (m_word (d := d + 28) h (w := 3) (t := 10003) (by decide) rfl (fun c1 => ⟨rfl, ?_⟩) (fun c1 => ⟨rfl, ?_⟩))
    rotate_left
    · rw [if_neg Bool.false_ne_true]
      unfold lp at hK1
      rw [show opN (tkJ f n j) = false by unfold opN; simpa using c1, if_neg Bool.false_ne_true] at hK1
      exact hK1 rfl s hE h
    rw [if_pos rfl]
    have hj := mst_lt hT h c1 (by decide)
    have cM : opN (tkJ f n j) = true := by unfold opN; simpa using c1
    unfold lp at hK1 hK0
    rw [if_pos cM] at hK1 hK0
    obtain ⟨g1, g2, g3⟩ := hg (j + 1) hj
    refine m_adv (d := d + 32) h hj (fun s1 hE1 h1 => ⟨zE_R hE1, ?_⟩)
    refine m_compares (d := d) hT s1 (j + 1) _ _ h1 (fun r1 s2 hE2 h2 => ⟨zE_R hE2, ?_⟩) (fun r1 s2 hE2 e2 => ⟨zE_R hE2, ?_⟩)
    · rw [if_pos rfl]
      rw [if_pos r1] at hK1 hK0
      obtain ⟨q1, q2, q3⟩ := g3 r1
      refine m_mark h2 (by rw [List.length_append, List.length_map]; omega) (fun s3 hE3 h3 => ⟨zE_R hE3, ?_⟩)
      rw [map3 (c := tkJ f n j) (by rw [c1]; decide)] at h3
      exact ih _ _ s3 (by omega) (zE_t hE (zE_t hE1 (zE_t hE2 hE3))) h3 hK1 hK0
    · rw [if_neg Bool.false_ne_true]
      rw [if_neg (by rw [r1]; exact Bool.false_ne_true)] at hK0
      exact hK0 rfl s2 (zE_t hE (zE_t hE1 hE2)) e2
theorem m_holds (hT : stt f n T = n) : mOK f n T (pCond (tkJ f n)) (fun s K => zc l g (d + 34) M_X8_holdsRead [.ref 164] s (zKz K)) := by
  have hT0 : tkJ f n T = 30000 := tk_end.mpr (by omega)
  have hg := gd_cmp (t := tkJ f n) hT0
  intro s j ms K h hK1 hK0
  unfold pCond chn at hK1 hK0
  have h400 := h.2.2.1
  obtain ⟨g1, g2, g3⟩ := hg j h.2.2.2.1
  refine t_X8_holdsRead (d := d + 33) h.1 (m_compares (d := d) hT s j ms _ h (fun r1 s2 hE2 h2 => ⟨zE_R hE2, ?_⟩) (fun r1 s2 hE2 e2 => ⟨zE_R hE2, ?_⟩))
  · rw [if_pos rfl]
    rw [if_pos r1] at hK1 hK0
    exact m_hold_9 (d := d) hT 401 _ _ s2 (by omega) hE2 h2 hK1 hK0
  · rw [if_neg Bool.false_ne_true]
    rw [if_neg (by rw [r1]; exact Bool.false_ne_true)] at hK0
    exact hK0 rfl s2 hE2 e2
end MPP
