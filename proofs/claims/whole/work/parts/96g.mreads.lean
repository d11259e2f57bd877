/-! ===== rules: the reference reads a text ===== -/
section MRD
variable {l : Launch} {g : zG} {d T : Nat} {f : Nat → Nat} {n : Nat} {s : zS} {j : Nat} {q : rQ}
theorem m_line (hT : stt f n T = n) (h : mst f n T s j (q.1.map mu)) (hq : mlq s.1 q) {K : Bool → zS → Prop}
    (hK1 : (pLine (tkJ f n) j q).1 = true → ∀ s', zE mlS s s' → mst f n T s' (pLine (tkJ f n) j q).2.1 ((pLine (tkJ f n) j q).2.2.1.map mu) → mlq s'.1 (pLine (tkJ f n) j q).2.2 → K true s')
    (hK0 : (pLine (tkJ f n) j q).1 = false → ∀ s', zE mlS s s' → s'.1 164 32 = nI (stt f n (pLine (tkJ f n) j q).2.1) → K false s') :
    zc l g (d + 35) M_X8_line [.ref 164] s (zKz K) := by
  have hml := h.2.2.2.2.2.2.2.2.1
  have h4 := h.2.2.1
  have hjT := h.2.2.2.1
  have gr0 := growM_0 hq.1
  refine t_X8_line (d := d + 34) h.1 (m_word (d := d + 29) h (w := 0) (t := 10000) (by decide) rfl (fun c1 => ⟨rfl, ?_⟩) (fun c1 => ⟨rfl, ?_⟩))
  · rw [if_pos rfl]
    by_cases c2 : s.1 259 1 = 0
    rotate_left
    · rw [if_neg c2]
      have hp : pLine (tkJ f n) j q = (false, j, q) := by
        unfold pLine
        rw [if_neg (fun w => c2 (gr0.mpr w.2)), if_neg (fun w => by rw [c1] at w; exact absurd w.1 (by decide))]
      rw [hp] at hK0
      exact m_pass0 (d := d + 32) h (fun s' hE e => ⟨zE_R hE, by rw [if_neg Bool.false_ne_true]; exact hK0 rfl s' (zE_rd hE) e⟩)
    rw [if_pos c2]
    have hg := gr0.mp c2
    have hj := mst_lt hT h c1 (by decide)
    refine m_pass1 (d := d + 32) h hj (fun s1 hE1 h1 => ⟨zE_R hE1, ?_⟩)
    rw [if_pos rfl]
    have hq1 := mlq_rd hE1 hq
    have h2 : mst f n T (zI s1 259 1 1) (j + 1) (q.1.map mu) := mst_c rfl (fun k => zI_o (by decide)) (fun k => zI_o (by decide)) (zI_o (by decide)) (fun k => zI_o (by decide)) h1
    have hE2 : zE mlS s1 (zI s1 259 1 1) := zE_i0 (Or.inr (Or.inr (Or.inr (Or.inr (Or.inr ⟨rfl, rfl⟩)))))
    have v2 : (zI s1 259 1 1).1 259 1 = 1 := zI_eq
    have o2 : ∀ o k, ¬ o = 259 → (zI s1 259 1 1).1 o k = s1.1 o k := fun o k w => zI_o w
    have r2 : (zI s1 259 1 1).2.2.1 = s1.2.2.1 := rfl
    generalize zI s1 259 1 1 = s2 at *
    refine m_begins (p := 12) h2 (by decide) (fun s3 hE3 v3 h3 => ⟨(zE_R hE3).trans r2, ?_⟩)
    have hE03 : zE mlS s s3 := zE_t (zE_rd hE1) (zE_t hE2 (zE_bg hE3))
    refine m_sum8 (d := d + 2) hT s3 _ _ _ h3 (fun r4 s4 hE4 h4' => ⟨zE_R hE4, ?_⟩) (fun r4 s4 hE4 e4 => ⟨zE_R hE4, ?_⟩)
    rotate_left
    · rw [if_neg Bool.false_ne_true]
      have hp : pLine (tkJ f n) j q = (false, (pSumD (tkJ f n) 8 (j + 1)).2.1, q) := by
        unfold pLine
        rw [if_pos ⟨c1, hg⟩, if_neg (by rw [r4]; decide)]
      rw [hp] at hK0
      exact hK0 rfl s4 (zE_t hE03 (zE_rd hE4)) e4
    rw [if_pos rfl]
    have b4 : s4.1 250 12 = nI q.1.length := by rw [hE4.2 _ _ (by unfold rdS; omega), v3, List.length_map]
    refine m_ends (d := d + 31) hT h4' (p := 12) (b := q.1.length) (by decide) b4 (by rw [List.length_append, List.length_map]; omega) (fun c5 s5 hE5 v5 h5 => ⟨zE_R hE5, ?_⟩) (fun c5 s5 hE5 e5 => ⟨zE_R hE5, ?_⟩)
    rotate_left
    · rw [if_neg Bool.false_ne_true]
      have hp : pLine (tkJ f n) j q = (false, (pSumD (tkJ f n) 8 (j + 1)).2.1, q) := by
        unfold pLine
        rw [if_pos ⟨c1, hg⟩, if_pos r4, if_neg c5]
      rw [hp] at hK0
      exact hK0 rfl s5 (zE_t hE03 (zE_t (zE_rd hE4) (zE_en hE5))) e5
    rw [if_pos rfl]
    have hp : pLine (tkJ f n) j q = (true, (pSumD (tkJ f n) 8 (j + 1)).2.1 + 1, (q.1 ++ (pSumD (tkJ f n) 8 (j + 1)).2.2, some (q.1.length, q.1.length + (pSumD (tkJ f n) 8 (j + 1)).2.2.length), q.2.2)) := by
      unfold pLine
      rw [if_pos ⟨c1, hg⟩, if_pos r4, if_pos c5]
    rw [hp] at hK1
    have g0 : ∀ o k, ¬ rdS o k → ¬ (o = 253 ∧ k = 12) → ¬ (o = 250 ∧ k = 12) → ¬ o = 259 → s5.1 o k = s1.1 o k := fun o k w1 w2 w3 w4 => by
      rw [hE5.2 o k (fun w => by rcases w with w | w; exact w1 w; exact w2 w), hE4.2 o k w1, hE3.2 o k w3, o2 o k w4]
    refine hK1 rfl s5 (zE_t hE03 (zE_t (zE_rd hE4) (zE_en hE5))) ?_ ⟨⟨?_, ?_, ?_⟩, ?_, hq1.2.2.1, fun i hi => ?_⟩
    · show mst f n T s5 _ ((q.1 ++ (pSumD (tkJ f n) 8 (j + 1)).2.2).map mu)
      rw [List.map_append]; exact h5
    · rw [hE5.2 259 1 (by unfold enS rdS; omega), hE4.2 259 1 (by unfold rdS; omega), hE3.2 259 1 (by omega)]; exact v2
    · rw [hE5.2 250 12 (by unfold enS rdS; omega)]; exact b4
    · rw [v5, List.length_append, List.length_map, List.length_map]
    · rw [g0 257 1 (by unfold rdS; omega) (by omega) (by omega) (by decide)]; exact hq1.2.1
    · have hi2 : i < 12 := Nat.lt_of_lt_of_le hi hq1.2.2.1
      rw [g0 256 i (by unfold rdS; omega) (by omega) (by omega) (by decide), g0 250 i (by unfold rdS; omega) (by omega) (by omega) (by decide), g0 253 i (by unfold rdS; omega) (by omega) (by omega) (by decide)]
      exact hq1.2.2.2 i hi
  rw [if_neg Bool.false_ne_true]
  have n1 : ¬ (tkJ f n j = 10000 ∧ q.2.1 = none) := fun w => c1 w.1
  refine m_word (d := d + 29) h (w := 1) (t := 10001) (by decide) rfl (fun c2 => ⟨rfl, ?_⟩) (fun c2 => ⟨rfl, ?_⟩)
  rotate_left
  · rw [if_neg Bool.false_ne_true]
    have hp : pLine (tkJ f n) j q = (false, j, q) := by
      unfold pLine
      rw [if_neg n1, if_neg (fun w => c2 w.1)]
    rw [hp] at hK0
    exact m_pass0 (d := d + 32) h (fun s' hE e => ⟨zE_R hE, by rw [if_neg Bool.false_ne_true]; exact hK0 rfl s' (zE_rd hE) e⟩)
  rw [if_pos rfl, hq.2.1]
  by_cases c3 : q.2.2.length < 12
  rotate_left
  · rw [if_pos (lit_le (c := 12) (b := 12) rfl (by omega) (by have := hq.2.2.1; omega))]
    have hp : pLine (tkJ f n) j q = (false, j, q) := by
      unfold pLine
      rw [if_neg n1, if_neg (fun w => c3 w.2)]
    rw [hp] at hK0
    exact m_pass0 (d := d + 32) h (fun s' hE e => ⟨zE_R hE, by rw [if_neg Bool.false_ne_true]; exact hK0 rfl s' (zE_rd hE) e⟩)
  rw [if_neg (lit_ge (c := 12) (b := 12) rfl c3 (by decide))]
  have hj := mst_lt hT h c2 (by decide)
  refine m_pass1 (d := d + 32) h hj (fun s1 hE1 h1 => ⟨zE_R hE1, ?_⟩)
  rw [if_pos rfl]
  have key := m_line_110 (l := l) (g := g) (d := d + 29) (K := K) h1 (x := q.2.2.length) (m_say (d := d) hT h1 (mlq_rd hE1 hq) c3 (fun k1 s' hE e => ?_) (fun k1 k2 s' hE e => ?_) (fun k1 k2 k3 s' hE e => ?_) (fun k1 k2 k3 k4 s' hE e => ?_) (fun k1 k2 k3 k4 s' hE hm hq' => ?_)) 7 0 rfl
  · rwa [fdK_0] at key
  · have hp : pLine (tkJ f n) j q = (false, j + 1, q) := by
      unfold pLine
      rw [if_neg n1, if_pos ⟨c2, c3⟩, if_neg k1]
    rw [hp] at hK0
    exact hK0 rfl s' (zE_t (zE_rd hE1) hE) e
  · have hp : pLine (tkJ f n) j q = (false, j + 2, q) := by
      unfold pLine
      rw [if_neg n1, if_pos ⟨c2, c3⟩, if_pos k1, if_neg k2]
    rw [hp] at hK0
    exact hK0 rfl s' (zE_t (zE_rd hE1) hE) e
  · have hp : pLine (tkJ f n) j q = (false, (pCond (tkJ f n) (j + 3)).2.1, q) := by
      unfold pLine
      rw [if_neg n1, if_pos ⟨c2, c3⟩, if_pos k1, if_pos k2, if_neg (by rw [show j + 3 = j + 1 + 2 by omega, k3]; exact Bool.false_ne_true)]
    rw [hp] at hK0
    exact hK0 rfl s' (zE_t (zE_rd hE1) hE) e
  · have hp : pLine (tkJ f n) j q = (false, (pCond (tkJ f n) (j + 3)).2.1, q) := by
      unfold pLine
      rw [if_neg n1, if_pos ⟨c2, c3⟩, if_pos k1, if_pos k2, if_pos k3, if_neg k4]
    rw [hp] at hK0
    exact hK0 rfl s' (zE_t (zE_rd hE1) hE) e
  · have hp : pLine (tkJ f n) j q = (true, (pCond (tkJ f n) (j + 3)).2.1 + 1, (q.1 ++ (pCond (tkJ f n) (j + 3)).2.2, q.2.1, q.2.2 ++ [(tkJ f n (j + 1) - 10004, q.1.length, q.1.length + (pCond (tkJ f n) (j + 3)).2.2.length)])) := by
      unfold pLine
      rw [if_neg n1, if_pos ⟨c2, c3⟩, if_pos k1, if_pos k2, if_pos k3, if_pos k4]
    rw [hp] at hK1
    exact hK1 rfl s' (zE_t (zE_rd hE1) hE) hm hq'
theorem m_reads_57 (hT : stt f n T = n) {sB : zS} {K : zS → Prop} :
    ∀ m j q s, T - j < m → zE mlS sB s → mst f n T s j (q.1.map mu) → mlq s.1 q →
    ((pTxt (tkJ f n) m j q).1 = true → ∀ s', zE mlS sB s' → mst f n T s' (pTxt (tkJ f n) m j q).2.1 ((pTxt (tkJ f n) m j q).2.2.1.map mu) → mlq s'.1 (pTxt (tkJ f n) m j q).2.2 → K s') →
    ((pTxt (tkJ f n) m j q).1 = false → ∀ s', zE mlS sB s' → s'.1 164 32 = nI (stt f n (pTxt (tkJ f n) m j q).2.1) → K s') →
    zt l g (d + 36) M_X8_reads 57 [.ref 164, .int 1] [] s (zKv K) := by
  have hT0 : tkJ f n T = 30000 := tk_end.mpr (by omega)
  intro m
  induction m with
  | zero => intro j q s hm; omega
  | succ m ih =>
    intro j q s hm hE h hq hK1 hK0
    have n4 := h.2.1.2.1
    have hb := (stt_b f n j).1
    have hR := h.1
    unfold pTxt at hK1 hK0
    refine t_X8_reads_57 (d := d + 35) hR ?_
    rw [if_neg (by decide), h.2.1.1, h.2.2.2.2.1]
    by_cases c1 : tkJ f n j = 30000
    · rw [if_pos (nI_le (by have := tk_end.mp c1; omega) (by omega))]
      rw [if_pos c1] at hK1
      exact hK1 rfl s hE h hq
    have hs : stt f n j < n := by
      by_cases w : stt f n j < n
      · exact w
      · exact absurd (tk_end.mpr w) c1
    rw [if_neg (nI_ge hs (by omega))]
    rw [if_neg c1] at hK1 hK0
    obtain ⟨f1, f2, f3⟩ := gd_line (t := tkJ f n) (q := q) hT0 h.2.2.2.1
    refine m_line (d := d) hT h hq (fun r1 s1 hE1 h1 hq1 => ⟨zE_R hE1, ?_⟩) (fun r1 s1 hE1 e1 => ⟨zE_R hE1, ?_⟩)
    · rw [if_pos r1] at hK1 hK0
      have := (f3 r1).1
      exact ih _ _ s1 (by omega) (zE_t hE hE1) h1 hq1 hK1 hK0
    · rw [if_neg (by rw [r1]; exact Bool.false_ne_true)] at hK0
      refine t_X8_reads_57 (d := d + 35) (zE_K hE1 hR) ?_
      rw [if_pos (by decide)]
      exact hK0 rfl s1 (zE_t hE hE1) e1
theorem m_reads (hR : zRok s) (hx : mx f n s) (hT : stt f n T = n) (hTn : T ≤ n) {K : zS → Prop}
    (hK1 : (pAll (tkJ f n)).1 = true → ∀ s', zE mlS s s' → mst f n T s' (pAll (tkJ f n)).2.1 ((pAll (tkJ f n)).2.2.1.map mu) → mlq s'.1 (pAll (tkJ f n)).2.2 → K s')
    (hK0 : (pAll (tkJ f n)).1 = false → ∀ s', zE mlS s s' → s'.1 164 32 = nI (stt f n (pAll (tkJ f n)).2.1) → K s') :
    zc l g (d + 36) M_X8_reads [.ref 164] s (zKv K) := by
  have n4 := hx.2.1
  have hb := (stt_b f n 0).1
  refine t_X8_reads (d := d + 35) hR ?_
  have hE1 : zE mlS s (zI (zI (zI (zI (zI s 164 32 (-1)) 257 1 (0)) 258 1 (0)) 259 1 (0)) 164 31 (0)) :=
    zE_i (zE_i (zE_i (zE_i (zE_i0 (Or.inl (Or.inl ⟨rfl, Or.inr (Or.inr rfl)⟩))) (Or.inr (Or.inr (Or.inr (Or.inr (Or.inl ⟨rfl, rfl⟩)))))) (Or.inl (Or.inr (Or.inl ⟨rfl, rfl⟩)))) (Or.inr (Or.inr (Or.inr (Or.inr (Or.inr ⟨rfl, rfl⟩)))))) (Or.inl (Or.inl ⟨rfl, Or.inr (Or.inl rfl)⟩))
  have v31 : (zI (zI (zI (zI (zI s 164 32 (-1)) 257 1 (0)) 258 1 (0)) 259 1 (0)) 164 31 (0)).1 164 31 = nI 0 := zI_eq
  have v32 : (zI (zI (zI (zI (zI s 164 32 (-1)) 257 1 (0)) 258 1 (0)) 259 1 (0)) 164 31 (0)).1 164 32 = -1 := by
    rw [zI_k (by decide), zI_o (by decide), zI_o (by decide), zI_o (by decide), zI_eq]
  have v257 : (zI (zI (zI (zI (zI s 164 32 (-1)) 257 1 (0)) 258 1 (0)) 259 1 (0)) 164 31 (0)).1 257 1 = nI 0 := by
    rw [zI_o (by decide), zI_o (by decide), zI_o (by decide), zI_eq]; rfl
  have v258 : (zI (zI (zI (zI (zI s 164 32 (-1)) 257 1 (0)) 258 1 (0)) 259 1 (0)) 164 31 (0)).1 258 1 = nI 0 := by
    rw [zI_o (by decide), zI_o (by decide), zI_eq]; rfl
  have v259 : (zI (zI (zI (zI (zI s 164 32 (-1)) 257 1 (0)) 258 1 (0)) 259 1 (0)) 164 31 (0)).1 259 1 = 0 := by
    rw [zI_o (by decide), zI_eq]
  have r1 : (zI (zI (zI (zI (zI s 164 32 (-1)) 257 1 (0)) 258 1 (0)) 259 1 (0)) 164 31 (0)).2.2.1 = s.2.2.1 := rfl
  have hx1 : mx f n (zI (zI (zI (zI (zI s 164 32 (-1)) 257 1 (0)) 258 1 (0)) 259 1 (0)) 164 31 (0)) := mx_c (hE1.2 _ _ (by unfold mlS rdS; omega)) (fun k => hE1.2 _ _ (by unfold mlS rdS; omega)) hx
  generalize zI (zI (zI (zI (zI s 164 32 (-1)) 257 1 (0)) 258 1 (0)) 259 1 (0)) 164 31 (0) = s1 at *
  refine m_next (d := d + 34) (zE_K hE1 hR) hx1 (Nat.zero_le _) v31 (fun s2 hE2 e30 e31 => ⟨(zE_R hE2).trans r1, ?_⟩)
  have hE02 : zE mlS s s2 := zE_t hE1 (zE_m hE2 (fun o k w => by unfold mnS at w; unfold mlS rdS; omega))
  have k2 : ∀ o k, ¬ (o = 164 ∧ (k = 30 ∨ k = 31)) → s2.1 o k = s1.1 o k := fun o k w => hE2.2 o k w
  have hx2 : mx f n s2 := mx_c (k2 _ _ (by omega)) (fun k => k2 _ _ (by omega)) hx1
  have es : s2.1 164 30 = nI (stt f n 0) := e30
  have ee : s2.1 164 31 = nI (enn f n 0) := e31
  unfold pAll at hK1 hK0
  rw [es, hx2.1]
  by_cases c : tkJ f n 0 = 30000
  · have hs : stt f n 0 = n := by have := tk_end.mp c; omega
    rw [hs, if_pos rfl]
    rw [if_pos c] at hK0
    exact hK0 rfl _ (zE_i hE02 (Or.inl (Or.inl ⟨rfl, Or.inr (Or.inr rfl)⟩))) (by rw [zI_eq]; show nI n = nI (stt f n 0); rw [hs])
  · have hs : stt f n 0 < n := by
      by_cases w : stt f n 0 < n
      · exact w
      · exact absurd (tk_end.mpr w) c
    rw [if_neg (by rw [nI_eq (by omega) (by omega)]; omega)]
    rw [if_neg c] at hK1 hK0
    refine m_reads_57 (d := d) (sB := s) hT 401 0 q00 s2 (by omega) hE02 ⟨zE_K hE02 hR, hx2, by omega, Nat.zero_le _, es, ee, ?_, ?_, Nat.zero_le _, fun i hi => absurd hi (Nat.not_lt_zero i)⟩ ⟨?_, ?_, by decide, fun i hi => absurd hi (Nat.not_lt_zero i)⟩ hK1 hK0
    · rw [k2 _ _ (by omega)]; exact v32
    · rw [k2 _ _ (by omega)]; exact v258
    · show s2.1 259 1 = 0
      rw [k2 _ _ (by omega)]; exact v259
    · rw [k2 _ _ (by omega)]; exact v257
end MRD
