/-! ===== rules: the reference reads sums ===== -/
/-- the reference's mark for a code -/
def mu (c : Int32) : Int32 := if c ≤ 9999 then c else if c < 10018 then (if c = 10003 then 20006 else c - 11) else if c = 20043 then 20001 else if c = 20045 then 20002 else if c = 20042 then 20003 else if c = 20060 then 20004 else 20005
def rdS : Nat → Nat → Prop := fun o k => (o = 164 ∧ (k = 30 ∨ k = 31 ∨ k = 32)) ∨ (o = 258 ∧ k = 1) ∨ o = 247
def mst (f : Nat → Nat) (n T : Nat) (s : zS) (j : Nat) (ms : List Int32) : Prop := zRok s ∧ mx f n s ∧ T ≤ 400 ∧ j ≤ T ∧ s.1 164 30 = nI (stt f n j) ∧ s.1 164 31 = nI (enn f n j) ∧ s.1 164 32 = -1 ∧ s.1 258 1 = nI ms.length ∧ ms.length ≤ j ∧ ∀ i, i < ms.length → s.1 247 i = ms.getD i 0
def mOK (f : Nat → Nat) (n T : Nat) (F : Nat → pR) (call : zS → (Bool → zS → Prop) → Prop) : Prop :=
  ∀ (s : zS) (j : Nat) (ms : List Int32) (K : Bool → zS → Prop), mst f n T s j ms → ((F j).1 = true → ∀ s', zE rdS s s' → mst f n T s' (F j).2.1 (ms ++ (F j).2.2.map mu) → K true s') → ((F j).1 = false → ∀ s', zE rdS s s' → s'.1 164 32 = nI (stt f n (F j).2.1) → K false s') → call s K
/-- which of the values a token names, of the first c -/
def fdI (t : Int32) (c : Nat) : Int32 := if 10011 ≤ t ∧ t < nI (10011 + c) then t - 10011 else -1
theorem fdI_0 {t : Int32} : fdI t 0 = -1 := by
  unfold fdI
  rw [if_neg (fun w => ?_)]
  have h2 := w.2
  rw [show nI (10011 + 0) = 10011 from rfl, ti_lt] at h2
  have h1 := w.1
  rw [ti_le] at h1
  omega
theorem fdI_s {t : Int32} {c : Nat} (hc : c < 7) : fdI t (c + 1) = if t = nI (10000 + (11 + c)) then nI c else fdI t c := by
  have e1 : (nI (10011 + (c + 1))).toInt = 10011 + c + 1 := by rw [nI_toInt (by omega)]; omega
  have e2 : (nI (10011 + c)).toInt = 10011 + c := by rw [nI_toInt (by omega)]; omega
  have e3 : (nI (10000 + (11 + c))).toInt = 10011 + c := by rw [nI_toInt (by omega)]; omega
  have e0 : (10011 : Int32).toInt = 10011 := rfl
  unfold fdI
  by_cases w : t = nI (10000 + (11 + c))
  · have wt : t.toInt = 10011 + c := by rw [w]; exact e3
    rw [if_pos w, if_pos (by rw [ti_le, ti_lt, e0, e1]; omega), ti_eq, ti_sub (by rw [e0]; omega) (by rw [e0]; omega), e0, nI_toInt (by omega), wt]
    omega
  · have wt : ¬ t.toInt = 10011 + c := fun u => w (ti_eq.mpr (by rw [e3]; exact u))
    rw [if_neg w]
    by_cases u : 10011 ≤ t ∧ t < nI (10011 + c)
    · have u2 := u
      rw [ti_le, ti_lt, e0, e2] at u2
      rw [if_pos u, if_pos (by rw [ti_le, ti_lt, e0, e1]; omega)]
    · have u2 := u
      rw [ti_le, ti_lt, e0, e2] at u2
      rw [if_neg u, if_neg (by rw [ti_le, ti_lt, e0, e1]; omega)]
theorem fdI_7 {t : Int32} (h : ¬ t ≤ 9999) : (isVal t = true → ¬ fdI t 7 = -1 ∧ 10000 + fdI t 7 = mu t) ∧ (¬ isVal t = true → fdI t 7 = -1) := by
  have e0 : (10011 : Int32).toInt = 10011 := rfl
  have e1 : (10018 : Int32).toInt = 10018 := rfl
  have e2 : nI (10011 + 7) = 10018 := rfl
  have e9 : (9999 : Int32).toInt = 9999 := rfl
  have ez : (0 : Int32).toInt = 0 := rfl
  have hr := ti_rng t
  have h' := h
  rw [ti_le, e9] at h'
  have hv : isVal t = true ↔ (10011 ≤ t ∧ t < 10018) := by
    unfold isVal
    simp only [Bool.and_eq_true, Bool.or_eq_true, decide_eq_true_eq]
    simp only [ti_le, ti_lt, e0, e1, e9, ez]
    omega
  rw [hv]
  unfold fdI
  rw [e2]
  refine ⟨fun w => ?_, fun w => by rw [if_neg w]⟩
  rw [if_pos w]
  have w2 := w
  rw [ti_le, ti_lt, e0, e1] at w2
  have es : (t - 10011).toInt = t.toInt - 10011 := by rw [ti_sub (by rw [e0]; omega) (by rw [e0]; omega), e0]
  refine ⟨fun u => ?_, ?_⟩
  · rw [ti_eq, es, show (-1 : Int32).toInt = -1 from rfl] at u; omega
  · unfold mu
    rw [if_neg h, if_pos w.2, if_neg (fun u => by rw [u] at w2; exact absurd w2.1 (by decide)), ti_eq, ti_add (by rw [es, show (10000 : Int32).toInt = 10000 from rfl]; omega) (by rw [es, show (10000 : Int32).toInt = 10000 from rfl]; omega), es, ti_sub (by rw [show (11 : Int32).toInt = 11 from rfl]; omega) (by rw [show (11 : Int32).toInt = 11 from rfl]; omega), show (10000 : Int32).toInt = 10000 from rfl, show (11 : Int32).toInt = 11 from rfl]
    omega
theorem ws_v : ∀ c, c < 7 → wsid (11 + c) = 9 + c := by decide
theorem mu_le {c : Int32} (h : c ≤ 9999) : mu c = c := by unfold mu; rw [if_pos h]
section MPS
variable {l : Launch} {g : zG} {d T : Nat} {f : Nat → Nat} {n : Nat} {s : zS} {j : Nat} {ms : List Int32}
theorem mx_rd {s' : zS} (hE : zE rdS s s') (hx : mx f n s) : mx f n s' := mx_c (hE.2 _ _ (by unfold rdS; omega)) (fun k => hE.2 _ _ (by unfold rdS; omega)) hx
theorem m_adv (h : mst f n T s j ms) (hj : j < T) {K : zS → Prop} (hK : ∀ s', zE rdS s s' → mst f n T s' (j + 1) ms → K s') : zc l g (d + 1) M_X8_next [.ref 164] s (zKv K) := by
  obtain ⟨hR, hx, h4, -, h30, h31, h32, a1, a2, a3⟩ := h
  refine m_next hR hx (stt_b f n j).2.1 h31 (fun s' hE e1 e2 => ?_)
  have hE2 : zE rdS s s' := zE_m hE (fun o k w => by unfold mnS at w; unfold rdS; omega)
  refine hK s' hE2 ⟨zE_K hE hR, mx_rd hE2 hx, h4, hj, e1, e2, ?_, ?_, by omega, fun i hi => ?_⟩
  · rw [hE.2 164 32 (by unfold mnS; omega)]; exact h32
  · rw [hE.2 258 1 (by unfold mnS; omega)]; exact a1
  · rw [hE.2 247 i (by unfold mnS; omega)]; exact a3 i hi
theorem m_pass (h : mst f n T s j ms) {b : Bool} (hb : b = true → j < T) {K : Bool → zS → Prop} (h1 : b = true → ∀ s', zE rdS s s' → mst f n T s' (j + 1) ms → K true s') (h0 : b = false → ∀ s', zE rdS s s' → s'.1 164 32 = nI (stt f n j) → K false s') : zc l g (d + 2) M_X8_passes [.ref 164, .int (zb b)] s (zKz K) := by
  refine t_X8_passes (d := d + 1) h.1 ?_
  by_cases c : b = true
  · rw [if_pos c]
    exact m_adv (d := d) h (hb c) (fun s' hE hm => ⟨zE_R hE, h1 c s' hE hm⟩)
  · rw [if_neg c, if_pos h.2.2.2.2.2.2.1, h.2.2.2.2.1]
    exact h0 (Bool.eq_false_iff.mpr c) _ (zE_i0 (Or.inl ⟨rfl, Or.inr (Or.inr rfl)⟩)) zI_eq
theorem m_pass1 (h : mst f n T s j ms) (hj : j < T) {K : Bool → zS → Prop} (h1 : ∀ s', zE rdS s s' → mst f n T s' (j + 1) ms → K true s') : zc l g (d + 2) M_X8_passes [.ref 164, .int 1] s (zKz K) :=
  m_pass (b := true) h (fun _ => hj) (fun _ => h1) (fun w => absurd w (by decide))
theorem m_pass0 (h : mst f n T s j ms) {K : Bool → zS → Prop} (h0 : ∀ s', zE rdS s s' → s'.1 164 32 = nI (stt f n j) → K false s') : zc l g (d + 2) M_X8_passes [.ref 164, .int 0] s (zKz K) :=
  m_pass (b := false) h (fun w => absurd w (by decide)) (fun w => absurd w (by decide)) (fun _ => h0)
theorem m_mark (h : mst f n T s j ms) (hl : ms.length < j) {c : Int32} {K : zS → Prop} (hK : ∀ s', zE rdS s s' → mst f n T s' j (ms ++ [c]) → K s') : zc l g d M_X8_mark [.ref 164, .int c] s (zKv K) := by
  obtain ⟨hR, hx, h4, hj, h30, h31, h32, a1, a2, a3⟩ := h
  refine t_X8_mark hR ?_
  rw [a1, nI_clamp (by omega), ← nI_succ]
  have hE : zE rdS s (zI (zI s 247 ms.length c) 258 1 (nI (ms.length + 1))) := zE_i (zE_i0 (Or.inr (Or.inr rfl))) (Or.inr (Or.inl ⟨rfl, rfl⟩))
  refine ⟨vp_in_nI (by omega) (by decide), hK _ hE ⟨hR, mx_rd hE hx, h4, hj, ?_, ?_, ?_, ?_, by rw [List.length_append, List.length_singleton]; omega, fun i hi => ?_⟩⟩
  · rw [zI_o (by decide), zI_o (by decide)]; exact h30
  · rw [zI_o (by decide), zI_o (by decide)]; exact h31
  · rw [zI_o (by decide), zI_o (by decide)]; exact h32
  · rw [zI_eq, List.length_append, List.length_singleton]
  · rw [zI_o (by decide), getD_snoc hi]
    by_cases e : i = ms.length
    · rw [if_pos e, e, zI_eq]
    · rw [if_neg e, zI_k e]
      rw [List.length_append, List.length_singleton] at hi
      exact a3 i (by omega)
/-- a token that isn't the end -/
theorem mst_lt (hT : stt f n T = n) (h : mst f n T s j ms) {c : Int32} (hc : tkJ f n j = c) (h0 : ¬ c = 30000) : j < T := by
  have hj := h.2.2.2.1
  by_cases e : j = T
  · exfalso
    have : tkJ f n T = 30000 := tk_end.mpr (by omega)
    rw [e, this] at hc
    exact h0 hc.symm
  · omega
theorem m_sign (h : mst f n T s j ms) {c : Nat} (hc : isSg c = true) {t : Int32} (ht : t = nI (20000 + c)) {K : Bool → zS → Prop} (h1 : tkJ f n j = t → K true s) (h0 : ¬ tkJ f n j = t → K false s) : zc l g d M_X8_isSign [.ref 164, .int (nI c)] s (zKz K) := by
  refine m_isSign h.1 h.2.1 h.2.2.2.2.1 hc ?_
  by_cases w : tkJ f n j = nI (20000 + c)
  · rw [decide_eq_true w]; exact h1 (w.trans ht.symm)
  · rw [decide_eq_false w]; exact h0 (fun u => w (u.trans ht))
theorem m_word (h : mst f n T s j ms) {w : Nat} (hw : w < 18) {t : Int32} (ht : t = nI (10000 + w)) {K : Bool → zS → Prop} (h1 : tkJ f n j = t → K true s) (h0 : ¬ tkJ f n j = t → K false s) : zc l g (d + 5) M_X8_isWord [.ref 164, .ref (2 + wsid w)] s (zKz K) := by
  refine m_isWord h.1 h.2.1 h.2.2.2.2.1 h.2.2.2.2.2.1 hw ?_
  by_cases c : tkJ f n j = nI (10000 + w)
  · rw [decide_eq_true c]; exact h1 (c.trans ht.symm)
  · rw [decide_eq_false c]; exact h0 (fun u => c (u.trans ht))
theorem m_fac_78 (hR : zRok s) (hx : mx f n s) {e : Nat} (he : e ≤ n) (h31 : s.1 164 31 = nI e) {K : Bool → zS → Prop} {V : Nat}
    (h1 : V ≤ 9999 → zc l g d M_X8_passes [.ref 164, .int 1] s (zKz (fun b5 s4 => s4.2.2.1 = s.2.2.1 ∧ (if b5 = true then (zc l g d M_X8_mark [.ref 164, .int (nI V)] s4 (zKv (fun s6 => s6.2.2.1 = s4.2.2.1 ∧ K true s6))) else K false s4))))
    (h0 : ¬ V ≤ 9999 → ∀ x, zc l g d M_X8_passes [.ref 164, .int 0] s (zKz (fun b2 s1 => s1.2.2.1 = s.2.2.1 ∧ (if b2 = true then (zc l g d M_X8_mark [.ref 164, .int x] s1 (zKv (fun s3 => s3.2.2.1 = s1.2.2.1 ∧ K true s3))) else K false s1)))) :
    ∀ m k v x, k + m = e → v ≤ 10000 → (v ≤ 9999 → x = nI v) → (¬ v ≤ 9999 → 9999 < x) → (∀ i, k ≤ i → i < e → 48 ≤ f i ∧ f i ≤ 57) → nmL f m k v = V → zt l g (d + 1) M_X8_factor 78 [.ref 164, zJ, .int x, .int (nI k)] [] s (zKz K) := by
  have n4 := hx.2.1
  have e9 : (9999 : Int32).toInt = 9999 := rfl
  intro m
  induction m with
  | zero =>
    intro k v x hk hv x1 x0 hd hV
    have hV2 : v = V := hV
    subst hV2
    refine t_X8_factor_78 hR ?_
    rw [h31, if_pos (nI_le (by omega) (by omega))]
    by_cases c : v ≤ 9999
    · have ex := x1 c
      subst ex
      rw [if_neg (by rw [ti_lt, e9, nI_toInt (by omega)]; omega)]
      exact h1 c
    · rw [if_pos (x0 c)]
      exact h0 c x
  | succ m ih =>
    intro k v x hk hv x1 x0 hd hV
    obtain ⟨d1, d2⟩ := hd k (Nat.le_refl _) (by omega)
    refine t_X8_factor_78 hR ?_
    rw [h31, if_neg (nI_ge (by omega) (by omega)), nI_clamp (by omega), ← nI_succ]
    unfold nmL at hV
    by_cases c : v ≤ 9999
    · have ex := x1 c
      subst ex
      rw [if_pos (by rw [ti_le, e9, nI_toInt (by omega)]; omega)]
      refine ⟨vp_in_nI (by omega) (by decide), ?_⟩
      intro v8 e8
      have eb := (hx.2.2 k (by omega)).2
      rw [if_pos (by omega)] at eb
      have a1 : ((10 : Int32) * nI v).toInt = 10 * v := by rw [ti_mul (by rw [nI_toInt (by omega), show (10 : Int32).toInt = 10 from rfl]; omega) (by rw [nI_toInt (by omega), show (10 : Int32).toInt = 10 from rfl]; omega), nI_toInt (by omega), show (10 : Int32).toInt = 10 from rfl]
      have a2 : ((10 : Int32) * nI v + s.1 244 k).toInt = 10 * v + f k := by rw [ti_add (by rw [a1, eb]; omega) (by rw [a1, eb]; omega), a1, eb]
      have a3 : ((10 : Int32) * nI v + s.1 244 k - 48).toInt = 10 * v + f k - 48 := by rw [ti_sub (by rw [a2, show (48 : Int32).toInt = 48 from rfl]; omega) (by rw [a2, show (48 : Int32).toInt = 48 from rfl]; omega), a2, show (48 : Int32).toInt = 48 from rfl]
      refine ih (k + 1) (min (v * 10 + f k - 48) 10000) v8 (by omega) (by omega) (fun w => ?_) (fun w => ?_) (fun i u1 u2 => hd i (by omega) u2) hV
      · rw [e8, ti_eq, a3, nI_toInt (by omega)]
        omega
      · rw [e8, ti_lt, a3, e9]
        omega
    · have hlt := x0 c
      rw [if_neg (by rw [ti_le]; rw [ti_lt] at hlt; omega)]
      refine ih (k + 1) (min (v * 10 + f k - 48) 10000) x (by omega) (by omega) (fun w => by omega) (fun _ => hlt) (fun i u1 u2 => hd i (by omega) u2) hV
theorem m_fac_150 (h : mst f n T s j ms) {K : Bool → zS → Prop}
    (h1 : ¬ fdI (tkJ f n j) 7 = -1 → zc l g (d + 5) M_X8_passes [.ref 164, .int 1] s (zKz (fun b5 s4 => s4.2.2.1 = s.2.2.1 ∧ (if b5 = true then (zc l g (d + 5) M_X8_mark [.ref 164, .int (10000 + fdI (tkJ f n j) 7)] s4 (zKv (fun s6 => s6.2.2.1 = s4.2.2.1 ∧ K true s6))) else K false s4))))
    (h0 : fdI (tkJ f n j) 7 = -1 → zc l g (d + 5) M_X8_passes [.ref 164, .int 0] s (zKz (fun b2 s1 => s1.2.2.1 = s.2.2.1 ∧ (if b2 = true then (zc l g (d + 5) M_X8_mark [.ref 164, .int (10000 + fdI (tkJ f n j) 7)] s1 (zKv (fun s3 => s3.2.2.1 = s1.2.2.1 ∧ K true s3))) else K false s1)))) :
    ∀ m c, c + m = 7 → zt l g (d + 6) M_X8_factor 150 [.ref 164, zJ, .int (fdI (tkJ f n j) c), .int (nI c)] [] s (zKz K) := by
  intro m
  induction m with
  | zero =>
    intro c hc
    have : c = 7 := by omega
    subst this
    refine t_X8_factor_150 (d := d + 5) h.1 ?_
    rw [if_pos (by decide)]
    by_cases w : fdI (tkJ f n j) 7 = -1
    · rw [if_pos w]; exact h0 w
    · rw [if_neg w]; exact h1 w
  | succ m ih =>
    intro c hc
    refine t_X8_factor_150 (d := d + 5) h.1 ?_
    rw [if_neg (lit_ge (c := 7) (b := 7) rfl (by omega) (by decide)), nI_clamp (by omega), ← ws_v c (by omega), ← nI_succ]
    refine ⟨vp_in_nI (by omega) (by decide), m_word (d := d) h (w := 11 + c) (by omega) rfl (fun w => ⟨rfl, ?_⟩) (fun w => ⟨rfl, ?_⟩)⟩
    · rw [if_pos rfl]
      have := ih (c + 1) (by omega)
      rwa [fdI_s (by omega), if_pos w] at this
    · rw [if_neg Bool.false_ne_true]
      have := ih (c + 1) (by omega)
      rwa [fdI_s (by omega), if_neg w] at this
theorem m_factor (hT : stt f n T = n) {k : Nat} (hk : k ≤ 8) (hS : ∀ S', pSub (tkJ f n) k = some S' → mOK f n T S' (fun s K => zc l g (d + 5) M_X8_sum [.ref 164, .int (nI (8 - k + 1))] s (zKz K))) : mOK f n T (pFac (tkJ f n) (pSub (tkJ f n) k)) (fun s K => zc l g (d + 6) M_X8_factor [.ref 164, .int (nI (8 - k))] s (zKz K)) := by
  intro s j ms K h hK1 hK0
  have n4 := h.2.1.2.1
  have e30 := h.2.2.2.2.1
  have hml := h.2.2.2.2.2.2.2.2.1
  obtain ⟨b1, b2, b3⟩ := stt_b f n j
  refine t_X8_factor (d := d + 5) h.1 (m_sign h (c := 40) (t := 20040) (by decide) rfl (fun c4 => ⟨rfl, ?_⟩) (fun c4 => ⟨rfl, ?_⟩))
  · rw [if_pos rfl]
    have hj := mst_lt hT h c4 (by decide)
    cases k with
    | zero =>
      rw [show pSub (tkJ f n) 0 = none from rfl, pFac_0 c4] at hK0
      rw [if_pos (by decide)]
      exact m_pass0 (d := d + 3) h (fun s' hE e => ⟨zE_R hE, by rw [if_neg Bool.false_ne_true]; exact hK0 rfl s' hE e⟩)
    | succ k =>
      rw [show pSub (tkJ f n) (k + 1) = some (pSum (tkJ f n) (pSub (tkJ f n) k)) from rfl, pFac_p c4] at hK1 hK0
      unfold pPar at hK1 hK0
      have hS2 := hS _ rfl
      generalize pSum (tkJ f n) (pSub (tkJ f n) k) = S at *
      rw [if_neg (lit_ge (c := 8) (b := 8) rfl (by omega) (by decide)), ← nI_succ]
      refine m_pass1 (d := d + 3) h hj (fun s1 hE1 h1 => ⟨zE_R hE1, ?_⟩)
      rw [if_pos rfl]
      refine hS2 s1 (j + 1) ms _ h1 (fun r1 s2 hE2 h2 => ⟨zE_R hE2, ?_⟩) (fun r1 s2 hE2 e2 => ⟨zE_R hE2, ?_⟩)
      · rw [if_pos rfl]
        rw [if_pos r1] at hK1 hK0
        have hE02 := zE_t hE1 hE2
        refine m_sign h2 (c := 41) (t := 20041) (by decide) rfl (fun c5 => ⟨rfl, ?_⟩) (fun c5 => ⟨rfl, ?_⟩)
        · rw [if_pos c5] at hK1
          exact m_pass1 (d := d + 3) h2 (mst_lt hT h2 c5 (by decide)) (fun s3 hE3 h3 => ⟨zE_R hE3, by rw [if_pos rfl]; exact hK1 rfl s3 (zE_t hE02 hE3) h3⟩)
        · rw [if_neg c5] at hK0
          exact m_pass0 (d := d + 3) h2 (fun s3 hE3 e3 => ⟨zE_R hE3, by rw [if_neg Bool.false_ne_true]; exact hK0 rfl s3 (zE_t hE02 hE3) e3⟩)
      · rw [if_neg Bool.false_ne_true]
        rw [if_neg (by rw [r1]; exact Bool.false_ne_true)] at hK0
        exact hK0 rfl s2 (zE_t hE1 hE2) e2
  · rw [if_neg Bool.false_ne_true, e30]
    refine m_btD h.1 h.2.1 (by omega) ⟨rfl, ?_⟩
    by_cases cd : stt f n j < n ∧ isDg (f (stt f n j)) = true
    · rw [btw_y cd.1, if_pos cd.2, e30]
      have et := tk_dig cd.1 cd.2
      have hj : j < T := by
        by_cases e : j = T
        · exfalso; rw [e, hT] at cd; omega
        · have := h.2.2.2.1; omega
      have hlet : ¬ isLt (f (stt f n j)) = true := by have := isDg_i.mp cd.2; rw [isLt_i]; omega
      refine m_fac_78 (d := d + 5) (e := enn f n j) (V := nmT f (stt f n j) (enn f n j)) h.1 h.2.1 b2 h.2.2.2.2.2.1 (fun c5 => ?_) (fun c5 x => ?_) (enn f n j - stt f n j) (stt f n j) 0 0 (by omega) (by omega) (fun _ => rfl) (fun w => absurd (Nat.zero_le _) w) (fun i u1 u2 => ?_) rfl
      · rw [if_pos c5] at et
        have le9 : tkJ f n j ≤ 9999 := by rw [et, ti_le, nI_toInt (by omega), show (9999 : Int32).toInt = 9999 from rfl]; omega
        have hv : isVal (tkJ f n j) = true := (val_t (f := f) (n := n) j).mpr (Or.inl le9)
        rw [pFac_v hv] at hK1
        rw [← et]
        refine m_pass1 (d := d + 3) h hj (fun s1 hE1 h1 => ⟨zE_R hE1, ?_⟩)
        rw [if_pos rfl]
        refine m_mark h1 (by omega) (fun s2 hE2 h2 => ⟨zE_R hE2, hK1 rfl s2 (zE_t hE1 hE2) ?_⟩)
        show mst f n T s2 (j + 1) (ms ++ [mu (tkJ f n j)])
        rw [mu_le le9]; exact h2
      · rw [if_neg c5] at et
        rw [pFac_n (by rw [et]; decide) c4] at hK0
        exact m_pass0 (d := d + 3) h (fun s' hE e => ⟨zE_R hE, by rw [if_neg Bool.false_ne_true]; exact hK0 rfl s' hE e⟩)
      · by_cases e : i = stt f n j
        · rw [e]; exact isDg_i.mp cd.2
        · unfold enn tE at u2
          rw [if_pos cd.1, if_neg hlet, if_pos cd.2] at u2
          exact isDg_i.mp ((rn_b (p := isDg) (f := f) (n := n) (k := stt f n j + 1) (by omega)).2.2 i (by omega) u2)
    · have nb : btw isDg f n (stt f n j) = false := by
        by_cases c5 : stt f n j < n
        · rw [btw_y c5, Bool.eq_false_iff]; exact fun w => cd ⟨c5, w⟩
        · exact btw_n c5
      rw [nb, if_neg Bool.false_ne_true]
      have n9 := tk_nd (f := f) (n := n) (j := j) cd
      obtain ⟨f1, f2⟩ := fdI_7 n9
      have key := m_fac_150 (l := l) (g := g) (d := d) h (K := K) (fun c5 => ?_) (fun c5 => ?_) 7 0 rfl
      · rwa [fdI_0] at key
      · have hv : isVal (tkJ f n j) = true := by
          by_cases u : isVal (tkJ f n j) = true
          · exact u
          · exact absurd (f2 u) c5
        rw [pFac_v hv] at hK1
        have hj := mst_lt hT h (c := tkJ f n j) rfl (fun e => by rw [e] at hv; exact absurd hv (by decide))
        rw [(f1 hv).2]
        refine m_pass1 (d := d + 3) h hj (fun s1 hE1 h1 => ⟨zE_R hE1, ?_⟩)
        rw [if_pos rfl]
        exact m_mark h1 (by omega) (fun s2 hE2 h2 => ⟨zE_R hE2, hK1 rfl s2 (zE_t hE1 hE2) h2⟩)
      · have hv : ¬ isVal (tkJ f n j) = true := fun u => (f1 u).1 c5
        rw [pFac_n hv c4] at hK0
        exact m_pass0 (d := d + 3) h (fun s' hE e => ⟨zE_R hE, by rw [if_neg Bool.false_ne_true]; exact hK0 rfl s' hE e⟩)
end MPS
