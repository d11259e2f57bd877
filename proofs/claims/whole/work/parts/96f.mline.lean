/-! ===== rules: the reference reads lines ===== -/
/-- which of the kinds a token names, of the first c -/
def fdK (t : Int32) (c : Nat) : Int32 := if 10004 ≤ t ∧ t < nI (10004 + c) then t - 10004 else -1
theorem fdK_0 {t : Int32} : fdK t 0 = -1 := by
  unfold fdK
  rw [if_neg (fun w => ?_)]
  have h2 := w.2
  rw [show nI (10004 + 0) = 10004 from rfl, ti_lt] at h2
  have h1 := w.1
  rw [ti_le] at h1
  omega
theorem fdK_s {t : Int32} {c : Nat} (hc : c < 7) : fdK t (c + 1) = if t = nI (10000 + (4 + c)) then nI c else fdK t c := by
  have e1 : (nI (10004 + (c + 1))).toInt = 10004 + c + 1 := by rw [nI_toInt (by omega)]; omega
  have e2 : (nI (10004 + c)).toInt = 10004 + c := by rw [nI_toInt (by omega)]; omega
  have e3 : (nI (10000 + (4 + c))).toInt = 10004 + c := by rw [nI_toInt (by omega)]; omega
  have e0 : (10004 : Int32).toInt = 10004 := rfl
  unfold fdK
  by_cases w : t = nI (10000 + (4 + c))
  · have wt : t.toInt = 10004 + c := by rw [w]; exact e3
    rw [if_pos w, if_pos (by rw [ti_le, ti_lt, e0, e1]; omega), ti_eq, ti_sub (by rw [e0]; omega) (by rw [e0]; omega), e0, nI_toInt (by omega), wt]
    omega
  · have wt : ¬ t.toInt = 10004 + c := fun u => w (ti_eq.mpr (by rw [e3]; exact u))
    rw [if_neg w]
    by_cases u : 10004 ≤ t ∧ t < nI (10004 + c)
    · have u2 := u
      rw [ti_le, ti_lt, e0, e2] at u2
      rw [if_pos u, if_pos (by rw [ti_le, ti_lt, e0, e1]; omega)]
    · have u2 := u
      rw [ti_le, ti_lt, e0, e2] at u2
      rw [if_neg u, if_neg (by rw [ti_le, ti_lt, e0, e1]; omega)]
theorem fdK_7 {t : Int32} : (isKd t = true → ¬ fdK t 7 = -1 ∧ fdK t 7 = t - 10004) ∧ (¬ isKd t = true → fdK t 7 = -1) := by
  have e0 : (10004 : Int32).toInt = 10004 := rfl
  have e1 : (10011 : Int32).toInt = 10011 := rfl
  have e2 : nI (10004 + 7) = 10011 := rfl
  have hr := ti_rng t
  rw [isKd_i]
  unfold fdK
  rw [e2]
  refine ⟨fun w => ?_, fun w => by rw [if_neg w]⟩
  rw [if_pos w]
  have w2 := w
  rw [ti_le, ti_lt, e0, e1] at w2
  have es : (t - 10004).toInt = t.toInt - 10004 := by rw [ti_sub (by rw [e0]; omega) (by rw [e0]; omega), e0]
  refine ⟨fun u => ?_, rfl⟩
  rw [ti_eq, es, show (-1 : Int32).toInt = -1 from rfl] at u
  omega
theorem ws_k : ∀ c, c < 7 → wsid (4 + c) = 2 + c := by decide
def grM (I : zM2) : Option (Nat × Nat) → Prop
  | none => I 259 1 = 0
  | some p => I 259 1 = 1 ∧ I 250 12 = nI p.1 ∧ I 253 12 = nI (p.2 - p.1)
def mlq (I : zM2) (q : rQ) : Prop := grM I q.2.1 ∧ I 257 1 = nI q.2.2.length ∧ q.2.2.length ≤ 12 ∧ ∀ i, i < q.2.2.length → I 256 i = (q.2.2.getD i (0, 0, 0)).1 ∧ I 250 i = nI (q.2.2.getD i (0, 0, 0)).2.1 ∧ I 253 i = nI ((q.2.2.getD i (0, 0, 0)).2.2 - (q.2.2.getD i (0, 0, 0)).2.1)
def mlS : Nat → Nat → Prop := fun o k => rdS o k ∨ o = 250 ∨ o = 253 ∨ o = 256 ∨ (o = 257 ∧ k = 1) ∨ (o = 259 ∧ k = 1)
def enS (p : Nat) : Nat → Nat → Prop := fun o k => rdS o k ∨ (o = 253 ∧ k = p)
theorem grM_c {I I' : zM2} {w : Option (Nat × Nat)} (h1 : I' 259 1 = I 259 1) (h2 : I' 250 12 = I 250 12) (h3 : I' 253 12 = I 253 12) (h : grM I w) : grM I' w := by
  cases w with
  | none => unfold grM at *; rw [h1]; exact h
  | some p => unfold grM at *; rw [h1, h2, h3]; exact h
theorem mlq_c {I I' : zM2} {q : rQ} (h1 : I' 259 1 = I 259 1) (h2 : ∀ k, I' 250 k = I 250 k) (h3 : ∀ k, I' 253 k = I 253 k) (h4 : ∀ k, I' 256 k = I 256 k) (h5 : I' 257 1 = I 257 1) (h : mlq I q) : mlq I' q := by
  obtain ⟨a, b, c, e⟩ := h
  refine ⟨grM_c h1 (h2 12) (h3 12) a, by rw [h5]; exact b, c, fun i hi => ?_⟩
  rw [h2, h3, h4]; exact e i hi
theorem mlq_rd {s s' : zS} {q : rQ} (hE : zE rdS s s') (h : mlq s.1 q) : mlq s'.1 q :=
  mlq_c (hE.2 _ _ (by unfold rdS; omega)) (fun k => hE.2 _ _ (by unfold rdS; omega)) (fun k => hE.2 _ _ (by unfold rdS; omega)) (fun k => hE.2 _ _ (by unfold rdS; omega)) (hE.2 _ _ (by unfold rdS; omega)) h
theorem zE_rd {s s' : zS} (h : zE rdS s s') : zE mlS s s' := zE_m h (fun _ _ w => Or.inl w)
theorem zE_en {p : Nat} {s s' : zS} (h : zE (enS p) s s') : zE mlS s s' := zE_m h (fun o k w => by rcases w with w | w; exact Or.inl w; exact Or.inr (Or.inr (Or.inl w.1)))
theorem zE_bg {p : Nat} {s s' : zS} (h : zE (fun o k => o = 250 ∧ k = p) s s') : zE mlS s s' := zE_m h (fun o k w => Or.inr (Or.inl w.1))
theorem growM_0 {I : zM2} {w : Option (Nat × Nat)} (h : grM I w) : I 259 1 = 0 ↔ w = none := by
  cases w with
  | none => exact ⟨fun _ => rfl, fun _ => h⟩
  | some p =>
    refine ⟨fun e => ?_, fun e => by cases e⟩
    have := h.1
    rw [this] at e
    exact absurd e (by decide)
section MLN
variable {l : Launch} {g : zG} {d T : Nat} {f : Nat → Nat} {n : Nat} {s : zS} {j : Nat} {ms : List Int32} {q : rQ}
theorem mst_c {s s' : zS} (hR : s'.2.2.1 = s.2.2.1) (h164 : ∀ k, s'.1 164 k = s.1 164 k) (h244 : ∀ k, s'.1 244 k = s.1 244 k) (h258 : s'.1 258 1 = s.1 258 1) (h247 : ∀ k, s'.1 247 k = s.1 247 k) (h : mst f n T s j ms) : mst f n T s' j ms := by
  obtain ⟨a1, a2, a3, a4, a5, a6, a7, a8, a9, a10⟩ := h
  exact ⟨zRok_of hR a1, mx_c (h164 29) h244 a2, a3, a4, by rw [h164]; exact a5, by rw [h164]; exact a6, by rw [h164]; exact a7, by rw [h258]; exact a8, a9, fun i hi => by rw [h247]; exact a10 i hi⟩
theorem m_begins (h : mst f n T s j ms) {p : Nat} (hp : p < 13) {K : zS → Prop} (hK : ∀ s', zE (fun o k => o = 250 ∧ k = p) s s' → s'.1 250 p = nI ms.length → mst f n T s' j ms → K s') : zc l g d M_X8_begins [.ref 164, .int (nI p)] s (zKv K) := by
  refine t_X8_begins h.1 ?_
  rw [h.2.2.2.2.2.2.2.1, nI_clamp (by omega)]
  exact ⟨vp_in_nI hp (by decide), hK _ (zE_i0 ⟨rfl, rfl⟩) zI_eq (mst_c rfl (fun k => zI_o (by decide)) (fun k => zI_o (by decide)) (zI_o (by decide)) (fun k => zI_o (by decide)) h)⟩
theorem m_ends (hT : stt f n T = n) (h : mst f n T s j ms) {p b : Nat} (hp : p < 13) (hb : s.1 250 p = nI b) (hl : b ≤ ms.length) {K : Bool → zS → Prop} (h1 : tkJ f n j = 20059 → ∀ s', zE (enS p) s s' → s'.1 253 p = nI (ms.length - b) → mst f n T s' (j + 1) ms → K true s') (h0 : ¬ tkJ f n j = 20059 → ∀ s', zE (enS p) s s' → s'.1 164 32 = nI (stt f n j) → K false s') : zc l g (d + 3) M_X8_ends [.ref 164, .int (nI p)] s (zKz K) := by
  have hj := h.2.2.2.1
  have h4 := h.2.2.1
  have hml := h.2.2.2.2.2.2.2.2.1
  refine t_X8_ends (d := d + 2) h.1 ?_
  have hv : vp_in (nI p) 13 := vp_in_nI hp (by decide)
  have e : nI ms.length - nI b = nI (ms.length - b) := by
    have := nI_subN (a := b) (b := ms.length - b) (by omega)
    rwa [show b + (ms.length - b) = ms.length by omega] at this
  rw [nI_clamp (by omega), hb, h.2.2.2.2.2.2.2.1, e]
  refine ⟨hv, hv, ?_⟩
  have hm : mst f n T (zI s 253 p (nI (ms.length - b))) j ms := mst_c rfl (fun k => zI_o (by decide)) (fun k => zI_o (by decide)) (zI_o (by decide)) (fun k => zI_o (by decide)) h
  have hE : zE (enS p) s (zI s 253 p (nI (ms.length - b))) := zE_i0 (Or.inr ⟨rfl, rfl⟩)
  have v : (zI s 253 p (nI (ms.length - b))).1 253 p = nI (ms.length - b) := zI_eq
  have r : (zI s 253 p (nI (ms.length - b))).2.2.1 = s.2.2.1 := rfl
  generalize zI s 253 p (nI (ms.length - b)) = s3 at *
  refine m_sign hm (c := 59) (t := 20059) (by decide) rfl (fun c1 => ⟨r, ?_⟩) (fun c1 => ⟨r, ?_⟩)
  · exact m_pass1 (d := d) hm (mst_lt hT hm c1 (by decide)) (fun s' hE' hm' => ⟨zE_R hE', h1 c1 s' (zE_t hE (zE_m hE' (fun _ _ w => Or.inl w))) (by rw [hE'.2 253 p (by unfold rdS; omega)]; exact v) hm'⟩)
  · exact m_pass0 (d := d) hm (fun s' hE' e' => ⟨zE_R hE', h0 c1 s' (zE_t hE (zE_m hE' (fun _ _ w => Or.inl w))) e'⟩)
theorem m_line_110 (h : mst f n T s j ms) {x : Nat} {K : Bool → zS → Prop} (h7 : zt l g (d + 6) M_X8_line 110 [.ref 164, .int (nI x), .int (fdK (tkJ f n j) 7), .int (nI 7)] [] s (zKz K)) :
    ∀ m c, c + m = 7 → zt l g (d + 6) M_X8_line 110 [.ref 164, .int (nI x), .int (fdK (tkJ f n j) c), .int (nI c)] [] s (zKz K) := by
  intro m
  induction m with
  | zero =>
    intro c hc
    have : c = 7 := by omega
    subst this
    exact h7
  | succ m ih =>
    intro c hc
    refine t_X8_line_110 (d := d + 5) h.1 ?_
    rw [if_neg (lit_ge (c := 7) (b := 7) rfl (by omega) (by decide)), nI_clamp (by omega), ← ws_k c (by omega), ← nI_succ]
    refine ⟨vp_in_nI (by omega) (by decide), m_word (d := d) h (w := 4 + c) (by omega) rfl (fun w => ⟨rfl, ?_⟩) (fun w => ⟨rfl, ?_⟩)⟩
    · rw [if_pos rfl]
      have := ih (c + 1) (by omega)
      rwa [fdK_s (by omega), if_pos w] at this
    · rw [if_neg Bool.false_ne_true]
      have := ih (c + 1) (by omega)
      rwa [fdK_s (by omega), if_neg w] at this
/-- behind 'say': the kind, 'if', the condition, the end -/
theorem m_say (hT : stt f n T = n) (h : mst f n T s j (q.1.map mu)) (hq : mlq s.1 q) (hx : q.2.2.length < 12) {K : Bool → zS → Prop}
    (hA : ¬ isKd (tkJ f n j) = true → ∀ s', zE mlS s s' → s'.1 164 32 = nI (stt f n j) → K false s')
    (hB : isKd (tkJ f n j) = true → ¬ tkJ f n (j + 1) = 10002 → ∀ s', zE mlS s s' → s'.1 164 32 = nI (stt f n (j + 1)) → K false s')
    (hC : isKd (tkJ f n j) = true → tkJ f n (j + 1) = 10002 → (pCond (tkJ f n) (j + 2)).1 = false → ∀ s', zE mlS s s' → s'.1 164 32 = nI (stt f n (pCond (tkJ f n) (j + 2)).2.1) → K false s')
    (hD : isKd (tkJ f n j) = true → tkJ f n (j + 1) = 10002 → (pCond (tkJ f n) (j + 2)).1 = true → ¬ tkJ f n (pCond (tkJ f n) (j + 2)).2.1 = 20059 → ∀ s', zE mlS s s' → s'.1 164 32 = nI (stt f n (pCond (tkJ f n) (j + 2)).2.1) → K false s')
    (hK : isKd (tkJ f n j) = true → tkJ f n (j + 1) = 10002 → (pCond (tkJ f n) (j + 2)).1 = true → tkJ f n (pCond (tkJ f n) (j + 2)).2.1 = 20059 → ∀ s', zE mlS s s' → mst f n T s' ((pCond (tkJ f n) (j + 2)).2.1 + 1) ((q.1 ++ (pCond (tkJ f n) (j + 2)).2.2).map mu) → mlq s'.1 (q.1 ++ (pCond (tkJ f n) (j + 2)).2.2, q.2.1, q.2.2 ++ [(tkJ f n j - 10004, q.1.length, q.1.length + (pCond (tkJ f n) (j + 2)).2.2.length)]) → K true s') :
    zt l g (d + 35) M_X8_line 110 [.ref 164, .int (nI q.2.2.length), .int (fdK (tkJ f n j) 7), .int (nI 7)] [] s (zKz K) := by
  have hml := h.2.2.2.2.2.2.2.2.1
  have h4 := h.2.2.1
  have hjT := h.2.2.2.1
  obtain ⟨f1, f2⟩ := fdK_7 (t := tkJ f n j)
  refine t_X8_line_110 (d := d + 34) h.1 ?_
  rw [if_pos (by decide)]
  by_cases c1 : isKd (tkJ f n j) = true
  rotate_left
  · rw [if_pos (f2 c1)]
    exact m_pass0 (d := d + 32) h (fun s' hE e => ⟨zE_R hE, by rw [if_neg Bool.false_ne_true]; exact hA c1 s' (zE_rd hE) e⟩)
  rw [if_neg (f1 c1).1, (f1 c1).2]
  have hj := mst_lt hT h (c := tkJ f n j) rfl (fun e => by rw [e] at c1; exact absurd c1 (by decide))
  refine m_pass1 (d := d + 32) h hj (fun s1 hE1 h1 => ⟨zE_R hE1, ?_⟩)
  rw [if_pos rfl]
  refine m_word (d := d + 29) h1 (w := 2) (t := 10002) (by decide) rfl (fun c2 => ⟨rfl, ?_⟩) (fun c2 => ⟨rfl, ?_⟩)
  rotate_left
  · exact m_pass0 (d := d + 32) h1 (fun s' hE e => ⟨zE_R hE, by rw [if_neg Bool.false_ne_true]; exact hB c1 c2 s' (zE_rd (zE_t hE1 hE)) e⟩)
  refine m_pass1 (d := d + 32) h1 (mst_lt hT h1 c2 (by decide)) (fun s2 hE2 h2 => ⟨zE_R hE2, ?_⟩)
  rw [if_pos rfl, nI_clamp (by omega)]
  refine ⟨vp_in_nI (by omega) (by decide), ?_⟩
  have hE02 := zE_t hE1 hE2
  have hq2 := mlq_rd hE02 hq
  have h3 : mst f n T (zI s2 256 q.2.2.length (tkJ f n j - 10004)) (j + 1 + 1) (q.1.map mu) := mst_c rfl (fun k => zI_o (by decide)) (fun k => zI_o (by decide)) (zI_o (by decide)) (fun k => zI_o (by decide)) h2
  have hE3 : zE mlS s2 (zI s2 256 q.2.2.length (tkJ f n j - 10004)) := zE_i0 (Or.inr (Or.inr (Or.inr (Or.inl rfl))))
  have v3 : ∀ i, (zI s2 256 q.2.2.length (tkJ f n j - 10004)).1 256 i = if i = q.2.2.length then tkJ f n j - 10004 else s2.1 256 i := fun i => by
    by_cases w : i = q.2.2.length
    · rw [if_pos w, w, zI_eq]
    · rw [if_neg w, zI_k w]
  have o3 : ∀ o k, ¬ o = 256 → (zI s2 256 q.2.2.length (tkJ f n j - 10004)).1 o k = s2.1 o k := fun o k w => zI_o w
  have r3 : (zI s2 256 q.2.2.length (tkJ f n j - 10004)).2.2.1 = s2.2.2.1 := rfl
  generalize zI s2 256 q.2.2.length (tkJ f n j - 10004) = s3 at *
  refine m_begins h3 (by omega) (fun s4 hE4 v4 h4' => ⟨(zE_R hE4).trans r3, ?_⟩)
  have e257 : s4.1 257 1 = nI q.2.2.length := by rw [hE4.2 257 1 (by omega), o3 _ _ (by decide)]; exact hq2.2.1
  rw [e257, ← nI_succ]
  have h5 : mst f n T (zI s4 257 1 (nI (q.2.2.length + 1))) (j + 1 + 1) (q.1.map mu) := mst_c rfl (fun k => zI_o (by decide)) (fun k => zI_o (by decide)) (zI_o (by decide)) (fun k => zI_o (by decide)) h4'
  have hE5 : zE mlS s4 (zI s4 257 1 (nI (q.2.2.length + 1))) := zE_i0 (Or.inr (Or.inr (Or.inr (Or.inr (Or.inl ⟨rfl, rfl⟩)))))
  have v5 : (zI s4 257 1 (nI (q.2.2.length + 1))).1 257 1 = nI (q.2.2.length + 1) := zI_eq
  have o5 : ∀ o k, ¬ o = 257 → (zI s4 257 1 (nI (q.2.2.length + 1))).1 o k = s4.1 o k := fun o k w => zI_o w
  have r5 : (zI s4 257 1 (nI (q.2.2.length + 1))).2.2.1 = s4.2.2.1 := rfl
  generalize zI s4 257 1 (nI (q.2.2.length + 1)) = s5 at *
  have hE05 : zE mlS s s5 := zE_t (zE_rd hE02) (zE_t hE3 (zE_t (zE_bg hE4) hE5))
  refine m_holds (d := d) hT s5 _ _ _ h5 (fun r6 s6 hE6 h6 => ⟨(zE_R hE6).trans r5, ?_⟩) (fun r6 s6 hE6 e6 => ⟨(zE_R hE6).trans r5, ?_⟩)
  rotate_left
  · rw [if_neg Bool.false_ne_true]
    exact hC c1 c2 r6 s6 (zE_t hE05 (zE_rd hE6)) e6
  rw [if_pos rfl]
  have b6 : s6.1 250 q.2.2.length = nI q.1.length := by
    rw [hE6.2 _ _ (by unfold rdS; omega), o5 _ _ (by decide), v4, List.length_map]
  refine m_ends (d := d + 31) hT h6 (p := q.2.2.length) (b := q.1.length) (by omega) b6 (by rw [List.length_append, List.length_map]; omega) (fun c7 s7 hE7 v7 h7 => ⟨zE_R hE7, ?_⟩) (fun c7 s7 hE7 e7 => ⟨zE_R hE7, ?_⟩)
  rotate_left
  · rw [if_neg Bool.false_ne_true]
    exact hD c1 c2 r6 c7 s7 (zE_t hE05 (zE_t (zE_rd hE6) (zE_en hE7))) e7
  rw [if_pos rfl]
  have g0 : ∀ o k, ¬ rdS o k → ¬ (o = 253 ∧ k = q.2.2.length) → ¬ o = 257 → s7.1 o k = s4.1 o k := fun o k w1 w2 w3 => by
    rw [hE7.2 o k (fun w => by rcases w with w | w; exact w1 w; exact w2 w), hE6.2 o k w1, o5 o k w3]
  have g256 : ∀ i, s7.1 256 i = if i = q.2.2.length then tkJ f n j - 10004 else s2.1 256 i := fun i => by
    rw [g0 256 i (by unfold rdS; omega) (by omega) (by decide), hE4.2 256 i (by omega), v3]
  have g250 : ∀ i, s7.1 250 i = if i = q.2.2.length then nI q.1.length else s2.1 250 i := fun i => by
    rw [g0 250 i (by unfold rdS; omega) (by omega) (by decide)]
    by_cases w : i = q.2.2.length
    · rw [if_pos w, w, v4, List.length_map]
    · rw [if_neg w, hE4.2 250 i (by omega), o3 _ _ (by decide)]
  have g253 : ∀ i, s7.1 253 i = if i = q.2.2.length then nI (q.1.length + (pCond (tkJ f n) (j + 2)).2.2.length - q.1.length) else s2.1 253 i := fun i => by
    by_cases w : i = q.2.2.length
    · rw [if_pos w, w, v7, List.length_append, List.length_map, List.length_map]
    · rw [if_neg w, g0 253 i (by unfold rdS; omega) (by omega) (by decide), hE4.2 253 i (by omega), o3 _ _ (by decide)]
  have g259 : s7.1 259 1 = s2.1 259 1 := by
    rw [g0 259 1 (by unfold rdS; omega) (by omega) (by decide), hE4.2 259 1 (by omega), o3 _ _ (by decide)]
  have g257 : s7.1 257 1 = nI (q.2.2.length + 1) := by
    rw [hE7.2 257 1 (by unfold enS rdS; omega), hE6.2 257 1 (by unfold rdS; omega), v5]
  refine hK c1 c2 r6 c7 s7 (zE_t hE05 (zE_t (zE_rd hE6) (zE_en hE7))) (by rw [List.map_append]; exact h7) ⟨grM_c g259 ?_ ?_ hq2.1, ?_, ?_, fun i hi => ?_⟩
  · rw [g250, if_neg (by omega)]
  · rw [g253, if_neg (by omega)]
  · rw [g257]
    show nI (q.2.2.length + 1) = nI (q.2.2 ++ [_]).length
    rw [List.length_append, List.length_singleton]
  · show (q.2.2 ++ [_]).length ≤ 12
    rw [List.length_append, List.length_singleton]; omega
  · have hi2 : i < (q.2.2 ++ [(tkJ f n j - 10004, q.1.length, q.1.length + (pCond (tkJ f n) (j + 2)).2.2.length)]).length := hi
    show s7.1 256 i = ((q.2.2 ++ [(tkJ f n j - 10004, q.1.length, q.1.length + (pCond (tkJ f n) (j + 2)).2.2.length)]).getD i (0, 0, 0)).1 ∧ s7.1 250 i = nI ((q.2.2 ++ [(tkJ f n j - 10004, q.1.length, q.1.length + (pCond (tkJ f n) (j + 2)).2.2.length)]).getD i (0, 0, 0)).2.1 ∧ s7.1 253 i = nI (((q.2.2 ++ [(tkJ f n j - 10004, q.1.length, q.1.length + (pCond (tkJ f n) (j + 2)).2.2.length)]).getD i (0, 0, 0)).2.2 - ((q.2.2 ++ [(tkJ f n j - 10004, q.1.length, q.1.length + (pCond (tkJ f n) (j + 2)).2.2.length)]).getD i (0, 0, 0)).2.1)
    rw [getD_snoc hi2, g250, g253, g256]
    by_cases w : i = q.2.2.length
    · rw [if_pos w, if_pos w, if_pos w, if_pos w]; exact ⟨rfl, rfl, rfl⟩
    · rw [if_neg w, if_neg w, if_neg w, if_neg w]
      rw [List.length_append, List.length_singleton] at hi2
      exact hq2.2.2.2 i (by omega)
end MLN
