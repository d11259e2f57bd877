/-! ===== rules: the reference's tokens ===== -/
def mx (f : Nat → Nat) (n : Nat) (s : zS) : Prop := s.1 164 29 = nI n ∧ n ≤ 400 ∧ ∀ k, k < n → f k ≤ 255 ∧ (s.1 244 k).toInt = (if f k < 128 then (f k : Int) else (f k : Int) - 256)
def mnS : Nat → Nat → Prop := fun o k => o = 164 ∧ (k = 30 ∨ k = 31)
theorem nI_subN {a b : Nat} (h : a + b < 2 ^ 31) : nI (a + b) - nI a = nI b := by
  rw [ti_eq, ti_sub (by rw [nI_toInt h, nI_toInt (by omega)]; omega) (by rw [nI_toInt h, nI_toInt (by omega)]; omega), nI_toInt h, nI_toInt (by omega), nI_toInt (by omega)]
  omega
theorem mx_c {f : Nat → Nat} {n : Nat} {s s' : zS} (h29 : s'.1 164 29 = s.1 164 29) (h : ∀ k, s'.1 244 k = s.1 244 k) (hx : mx f n s) : mx f n s' :=
  ⟨by rw [h29]; exact hx.1, hx.2.1, fun k hk => by rw [h]; exact hx.2.2 k hk⟩
/-- a byte is c, below 128 -/
theorem mx_eq {f : Nat → Nat} {n : Nat} {s : zS} (hx : mx f n s) {k c : Nat} (hk : k < n) (hc : c < 128) : s.1 244 k = nI c ↔ f k = c := by
  obtain ⟨a, b⟩ := hx.2.2 k hk
  rw [ti_eq, nI_toInt (by omega), b]
  by_cases w : f k < 128
  · rw [if_pos w]; omega
  · rw [if_neg w]; omega
section MLX
variable {l : Launch} {g : zG} {d : Nat} {s : zS} {f : Nat → Nat} {n : Nat}
def btw (p : Nat → Bool) (f : Nat → Nat) (n k : Nat) : Bool := decide (k < n) && p (f k)
theorem m_btw (hR : zRok s) (hx : mx f n s) {lo hi : Nat} {p : Nat → Bool} (hp : ∀ c, p c = true ↔ lo ≤ c ∧ c ≤ hi) (hl : lo < 128) (hh : hi < 128) {k : Nat} (hk : k ≤ 400) {K : Bool → zS → Prop} (h : K (btw p f n k) s) : zc l g d M_X8_between [.ref 164, .int (nI k), .int (nI lo), .int (nI hi)] s (zKz K) := by
  refine t_X8_between hR ?_
  rw [hx.1]
  have n4 := hx.2.1
  by_cases c : k < n
  rotate_left
  · rw [if_pos (nI_le (by omega) (by omega))]
    rwa [show btw p f n k = false by unfold btw; rw [decide_eq_false c]; rfl] at h
  rw [if_neg (nI_ge c (by omega)), nI_clamp (by omega)]
  obtain ⟨a, b⟩ := hx.2.2 k c
  have hv : vp_in (nI k) 400 := vp_in_nI (by omega) (by decide)
  refine ⟨hv, ?_⟩
  have hb : btw p f n k = p (f k) := by unfold btw; rw [decide_eq_true c]; rfl
  rw [hb] at h
  by_cases c1 : s.1 244 k < nI lo
  · rw [if_pos c1]
    rw [ti_lt, nI_toInt (by omega), b] at c1
    rwa [show p (f k) = false by rw [Bool.eq_false_iff]; intro w; rw [hp] at w; rw [if_pos (by omega)] at c1; omega] at h
  rw [if_neg c1]
  refine ⟨hv, ?_⟩
  rw [ti_lt, nI_toInt (by omega), b] at c1
  have hlt : f k < 128 := by
    by_cases w : f k < 128
    · exact w
    · rw [if_neg w] at c1; omega
  rw [if_pos hlt] at c1 b
  by_cases c2 : nI hi < s.1 244 k
  · rw [if_pos c2]
    rw [ti_lt, nI_toInt (by omega), b] at c2
    rwa [show p (f k) = false by rw [Bool.eq_false_iff]; intro w; rw [hp] at w; omega] at h
  · rw [if_neg c2]
    rw [ti_lt, nI_toInt (by omega), b] at c2
    rwa [show p (f k) = true by rw [hp]; omega] at h
theorem m_btL (hR : zRok s) (hx : mx f n s) {k : Nat} (hk : k ≤ 400) {K : Bool → zS → Prop} (h : K (btw isLt f n k) s) : zc l g d M_X8_between [.ref 164, .int (nI k), .int 97, .int 122] s (zKz K) :=
  m_btw (lo := 97) (hi := 122) hR hx (fun c => isLt_i) (by decide) (by decide) hk h
theorem m_btD (hR : zRok s) (hx : mx f n s) {k : Nat} (hk : k ≤ 400) {K : Bool → zS → Prop} (h : K (btw isDg f n k) s) : zc l g d M_X8_between [.ref 164, .int (nI k), .int 48, .int 57] s (zKz K) :=
  m_btw (lo := 48) (hi := 57) hR hx (fun c => isDg_i) (by decide) (by decide) hk h
theorem btw_n {p : Nat → Bool} {k : Nat} (h : ¬ k < n) : btw p f n k = false := by unfold btw; rw [decide_eq_false h]; rfl
theorem btw_y {p : Nat → Bool} {k : Nat} (h : k < n) : btw p f n k = p (f k) := by unfold btw; rw [decide_eq_true h]; rfl
theorem m_nx_83 {s0 : zS} {K : zS → Prop} (hR0 : zRok s0) (hx0 : mx f n s0) {r : Nat} (hK : ∀ s', zE mnS s0 s' → s'.1 164 30 = s0.1 164 30 → s'.1 164 31 = nI r → K s') :
    ∀ m k s, k + m = n → zE mnS s0 s → s.1 164 30 = s0.1 164 30 → s.1 164 31 = nI k → rn isLt f n k = r → zt l g (d + 1) M_X8_next 83 [.ref 164] [] s (zKv K) := by
  intro m
  induction m with
  | zero =>
    intro k s hk hE h30 h31 hr
    have hx := mx_c (hE.2 _ _ (by unfold mnS; omega)) (fun k => hE.2 _ _ (by unfold mnS; omega)) hx0
    have n4 := hx.2.1
    have hkn : ¬ k < n := by omega
    refine t_X8_next_83 (zE_K hE hR0) ?_
    rw [h31]
    refine m_btL (zE_K hE hR0) hx (by omega) ⟨rfl, ?_⟩
    rw [btw_n hkn, if_neg Bool.false_ne_true]
    rw [rn_e (by omega)] at hr
    exact hK s hE h30 (by rw [h31, hr])
  | succ m ih =>
    intro k s hk hE h30 h31 hr
    have hx := mx_c (hE.2 _ _ (by unfold mnS; omega)) (fun k => hE.2 _ _ (by unfold mnS; omega)) hx0
    have n4 := hx.2.1
    have hkn : k < n := by omega
    refine t_X8_next_83 (zE_K hE hR0) ?_
    rw [h31]
    refine m_btL (zE_K hE hR0) hx (by omega) ⟨rfl, ?_⟩
    rw [btw_y hkn]
    by_cases c : isLt (f k) = true
    · rw [if_pos c, h31, ← nI_succ]
      rw [rn_y hkn c] at hr
      exact ih (k + 1) _ (by omega) (zE_i hE ⟨rfl, Or.inr rfl⟩) (by rw [zI_k (by decide)]; exact h30) (by rw [zI_eq]) hr
    · rw [if_neg c]
      rw [rn_n hkn c] at hr
      exact hK s hE h30 (by rw [h31, hr])
theorem m_nx_126 {s0 : zS} {K : zS → Prop} (hR0 : zRok s0) (hx0 : mx f n s0) {r : Nat} (hK : ∀ s', zE mnS s0 s' → s'.1 164 30 = s0.1 164 30 → s'.1 164 31 = nI r → K s') :
    ∀ m k s, k + m = n → zE mnS s0 s → s.1 164 30 = s0.1 164 30 → s.1 164 31 = nI k → rn isDg f n k = r → zt l g (d + 1) M_X8_next 126 [.ref 164] [] s (zKv K) := by
  intro m
  induction m with
  | zero =>
    intro k s hk hE h30 h31 hr
    have hx := mx_c (hE.2 _ _ (by unfold mnS; omega)) (fun k => hE.2 _ _ (by unfold mnS; omega)) hx0
    have n4 := hx.2.1
    have hkn : ¬ k < n := by omega
    refine t_X8_next_126 (zE_K hE hR0) ?_
    rw [h31]
    refine m_btD (zE_K hE hR0) hx (by omega) ⟨rfl, ?_⟩
    rw [btw_n hkn, if_neg Bool.false_ne_true]
    rw [rn_e (by omega)] at hr
    exact hK s hE h30 (by rw [h31, hr])
  | succ m ih =>
    intro k s hk hE h30 h31 hr
    have hx := mx_c (hE.2 _ _ (by unfold mnS; omega)) (fun k => hE.2 _ _ (by unfold mnS; omega)) hx0
    have n4 := hx.2.1
    have hkn : k < n := by omega
    refine t_X8_next_126 (zE_K hE hR0) ?_
    rw [h31]
    refine m_btD (zE_K hE hR0) hx (by omega) ⟨rfl, ?_⟩
    rw [btw_y hkn]
    by_cases c : isDg (f k) = true
    · rw [if_pos c, h31, ← nI_succ]
      rw [rn_y hkn c] at hr
      exact ih (k + 1) _ (by omega) (zE_i hE ⟨rfl, Or.inr rfl⟩) (by rw [zI_k (by decide)]; exact h30) (by rw [zI_eq]) hr
    · rw [if_neg c]
      rw [rn_n hkn c] at hr
      exact hK s hE h30 (by rw [h31, hr])
/-- where the token at k ends, or n -/
def tN (f : Nat → Nat) (n k : Nat) : Nat := if k < n then tE f n k else n
/-- behind the blanks: the token's end -/
theorem m_nx_t {s0 : zS} {K : zS → Prop} (hR0 : zRok s0) (hx0 : mx f n s0) {k : Nat} (hk : k ≤ n) (h30 : s0.1 164 30 = nI k) (hK : ∀ s', zE mnS s0 s' → s'.1 164 30 = nI k → s'.1 164 31 = nI (tN f n k) → K s') :
    zc l g d M_X8_between [.ref 164, .int (s0.1 164 30), .int 97, .int 122] (zI s0 164 31 (s0.1 164 30)) (zKz (fun b2 s1 => s1.2.2.1 = s0.2.2.1 ∧ (if b2 = true then zt l g (d + 1) M_X8_next 83 [.ref 164] [] s1 (zKv K) else (zc l g d M_X8_between [.ref 164, .int (s1.1 164 30), .int 48, .int 57] s1 (zKz (fun b4 s3 => s3.2.2.1 = s1.2.2.1 ∧ (if b4 = true then zt l g (d + 1) M_X8_next 126 [.ref 164] [] s3 (zKv K) else (if (s3.1 164 29) ≤ (s3.1 164 30) then K s3 else K (zI s3 164 31 ((s3.1 164 31) + 1)))))))))) := by
  have hE1 : zE mnS s0 (zI s0 164 31 (nI k)) := zE_i0 ⟨rfl, Or.inr rfl⟩
  have h1 : (zI s0 164 31 (nI k)).1 164 30 = nI k := by rw [zI_k (by decide)]; exact h30
  have h1' : (zI s0 164 31 (nI k)).1 164 30 = s0.1 164 30 := zI_k (by decide)
  have h2 : (zI s0 164 31 (nI k)).1 164 31 = nI k := zI_eq
  have hx1 : mx f n (zI s0 164 31 (nI k)) := mx_c (zI_k (by decide)) (fun k => zI_o (by decide)) hx0
  have hR1 := zE_K hE1 hR0
  have hr1 : (zI s0 164 31 (nI k)).2.2.1 = s0.2.2.1 := rfl
  have n4 := hx0.2.1
  rw [h30]
  generalize zI s0 164 31 (nI k) = s1 at *
  refine m_btL hR1 hx1 (by omega) ⟨hr1, ?_⟩
  by_cases c : k < n
  rotate_left
  · have e : k = n := by omega
    rw [btw_n c, if_neg Bool.false_ne_true, h1]
    refine m_btD hR1 hx1 (by omega) ⟨rfl, ?_⟩
    rw [btw_n c, if_neg Bool.false_ne_true, hx1.1, h1, if_pos (nI_le (by omega) (by omega))]
    refine hK s1 hE1 h1 ?_
    unfold tN
    rw [if_neg c, h2, e]
  have eN : tN f n k = tE f n k := by unfold tN; rw [if_pos c]
  rw [eN] at hK
  unfold tE at hK
  rw [btw_y c]
  by_cases c1 : isLt (f k) = true
  · rw [if_pos c1]
    rw [if_pos c1] at hK
    exact m_nx_83 (s0 := s0) (r := rn isLt f n (k + 1)) hR0 hx0 (fun s' a1 a2 a3 => hK s' a1 (by rw [a2, h30]) a3) (n - k) k s1 (by omega) hE1 h1' h2 (rn_y c c1)
  rw [if_neg c1, h1]
  rw [if_neg c1] at hK
  refine m_btD hR1 hx1 (by omega) ⟨rfl, ?_⟩
  rw [btw_y c]
  by_cases c2 : isDg (f k) = true
  · rw [if_pos c2]
    rw [if_pos c2] at hK
    exact m_nx_126 (s0 := s0) (r := rn isDg f n (k + 1)) hR0 hx0 (fun s' a1 a2 a3 => hK s' a1 (by rw [a2, h30]) a3) (n - k) k s1 (by omega) hE1 h1' h2 (rn_y c c2)
  rw [if_neg c2, hx1.1, h1, if_neg (nI_ge c (by omega)), h2, ← nI_succ]
  rw [if_neg c2] at hK
  exact hK _ (zE_i hE1 ⟨rfl, Or.inr rfl⟩) (by rw [zI_k (by decide)]; exact h1) zI_eq
theorem m_nx_8 {s0 : zS} {K : zS → Prop} (hR0 : zRok s0) (hx0 : mx f n s0) {r : Nat} (hr : r ≤ n) (hK : ∀ s', zE mnS s0 s' → s'.1 164 30 = nI r → s'.1 164 31 = nI (tN f n r) → K s') :
    ∀ m k s, k + m = n → zE mnS s0 s → s.1 164 30 = nI k → rn isBk f n k = r → zt l g (d + 1) M_X8_next 8 [.ref 164] [] s (zKv K) := by
  intro m
  induction m with
  | zero =>
    intro k s hk hE h30 hr
    have hx := mx_c (hE.2 _ _ (by unfold mnS; omega)) (fun k => hE.2 _ _ (by unfold mnS; omega)) hx0
    have n4 := hx.2.1
    rw [rn_e (by omega)] at hr
    have t := m_nx_t (l := l) (g := g) (d := d) (K := K) (zE_K hE hR0) hx (k := k) (by omega) h30 (fun s' a1 a2 a3 => hK s' (zE_t hE a1) (by rw [a2, hr]) (by rw [a3, hr]))
    refine t_X8_next_8 (zE_K hE hR0) ?_
    rw [if_pos (by rw [hx.1, h30]; exact nI_le (by omega) (by omega))]
    exact t
  | succ m ih =>
    intro k s hk hE h30 hr
    have hx := mx_c (hE.2 _ _ (by unfold mnS; omega)) (fun k => hE.2 _ _ (by unfold mnS; omega)) hx0
    have n4 := hx.2.1
    have hkn : k < n := by omega
    have hv : vp_in (s.1 164 30) 400 := by rw [h30]; exact vp_in_nI (by omega) (by decide)
    have hcl : (s.1 164 30).toNatClampNeg = k := by rw [h30, nI_clamp (by omega)]
    have e32 := mx_eq hx (c := 32) hkn (by decide)
    have e10 := mx_eq hx (c := 10) hkn (by decide)
    have nx : isBk (f k) = true → zt l g (d + 1) M_X8_next 8 [.ref 164] [] (zI s 164 30 (s.1 164 30 + 1)) (zKv K) := by
      intro c
      rw [h30, ← nI_succ]
      rw [rn_y hkn c] at hr
      exact ih (k + 1) _ (by omega) (zE_i hE ⟨rfl, Or.inl rfl⟩) zI_eq hr
    refine t_X8_next_8 (zE_K hE hR0) ?_
    rw [if_neg (by rw [hx.1, h30]; exact nI_ge hkn (by omega)), hcl]
    refine ⟨hv, ?_⟩
    by_cases c1 : s.1 244 k = 32
    · rw [if_pos c1]
      exact nx (isBk_i.mpr (Or.inl (e32.mp c1)))
    rw [if_neg c1]
    refine ⟨hv, ?_⟩
    by_cases c2 : s.1 244 k = 10
    · rw [if_pos c2]
      exact nx (isBk_i.mpr (Or.inr (e10.mp c2)))
    rw [if_neg c2]
    have nb : ¬ isBk (f k) = true := by
      rw [isBk_i]
      rintro (w | w)
      · exact c1 (e32.mpr w)
      · exact c2 (e10.mpr w)
    rw [rn_n hkn nb] at hr
    exact m_nx_t (l := l) (g := g) (d := d) (K := K) (zE_K hE hR0) hx (k := k) (by omega) h30 (fun s' a1 a2 a3 => hK s' (zE_t hE a1) (by rw [a2, hr]) (by rw [a3, hr]))
theorem m_next {K : zS → Prop} (hR : zRok s) (hx : mx f n s) {e : Nat} (he : e ≤ n) (h31 : s.1 164 31 = nI e) (hK : ∀ s', zE mnS s s' → s'.1 164 30 = nI (rn isBk f n e) → s'.1 164 31 = nI (tN f n (rn isBk f n e)) → K s') : zc l g (d + 1) M_X8_next [.ref 164] s (zKv K) := by
  refine t_X8_next hR ?_
  rw [h31]
  exact m_nx_8 (s0 := s) (r := rn isBk f n e) hR hx (rn_b he).2.1 hK (n - e) e _ (by omega) (zE_i0 ⟨rfl, Or.inl rfl⟩) zI_eq rfl
theorem m_isSign (hR : zRok s) (hx : mx f n s) {j c : Nat} (h30 : s.1 164 30 = nI (stt f n j)) (hc : isSg c = true) {K : Bool → zS → Prop} (h : K (decide (tkJ f n j = nI (20000 + c))) s) : zc l g d M_X8_isSign [.ref 164, .int (nI c)] s (zKz K) := by
  have n4 := hx.2.1
  have hb := (stt_b f n j).1
  have ht := tk_sign (f := f) (n := n) (j := j) hc
  have c128 : c < 128 := by unfold isSg at hc; simp at hc; omega
  refine t_X8_isSign hR ?_
  rw [hx.1, h30]
  by_cases c1 : stt f n j < n
  rotate_left
  · rw [if_pos (nI_le (by omega) (by omega))]
    rwa [decide_eq_false (fun w => c1 (ht.mp w).1)] at h
  rw [if_neg (nI_ge c1 (by omega)), nI_clamp (by omega)]
  refine ⟨vp_in_nI (by omega) (by decide), ?_⟩
  have e := mx_eq hx c1 c128
  by_cases c2 : s.1 244 (stt f n j) = nI c
  · rw [if_pos c2]
    rwa [decide_eq_true (ht.mpr ⟨c1, e.mp c2⟩)] at h
  · rw [if_neg c2]
    rwa [decide_eq_false (fun w => c2 (e.mpr (ht.mp w).2))] at h
theorem m_iw_34 (hR : zRok s) (hx : mx f n s) {w st : Nat} (hw : w < 18) (h30 : s.1 164 30 = nI st) (h31 : s.1 164 31 = nI (st + wlen w)) (hn : st + wlen w ≤ n) {K : Bool → zS → Prop} :
    ∀ m q, q + m = wlen w → (∀ i, i < q → f (st + i) = wch w i) → K (decide (∀ i, i < wlen w → f (st + i) = wch w i)) s → zt l g (d + 5) M_X8_isWord 34 [.ref 164, .ref (2 + wsid w), .int (nI (st + q))] [] s (zKz K) := by
  have n4 := hx.2.1
  obtain ⟨y1, y2, y3, y4⟩ := w_sid w hw
  obtain ⟨o1, o2, o3, o4, o5, o6⟩ := w_ok w hw
  intro m
  induction m with
  | zero =>
    intro q hq hi h
    refine t_X8_isWord_34 hR y1 ?_
    rw [h31, if_pos (nI_le (by omega) (by omega))]
    have hall : ∀ i, i < wlen w → f (st + i) = wch w i := fun i u => hi i (by omega)
    rwa [decide_eq_true hall] at h
  | succ m ih =>
    intro q hq hi h
    refine t_X8_isWord_34 hR y1 ?_
    rw [h31, if_neg (nI_ge (by omega) (by omega)), h30, nI_subN (by omega), nI_clamp (by omega), nI_clamp (by omega), y2, y4 q (by omega), ← nI_succ]
    refine ⟨vp_in_nI (by omega) (by decide), vp_in_nI (by omega) (by omega), ?_⟩
    have p := (o6 q (by omega)).2
    have e := mx_eq hx (k := st + q) (c := wch w q) (by omega) (by omega)
    by_cases c : s.1 244 (st + q) = nI (wch w q)
    · rw [if_pos c]
      refine ih (q + 1) (by omega) (fun i u => ?_) h
      by_cases z : i = q
      · rw [z]; exact e.mp c
      · exact hi i (by omega)
    · rw [if_neg c]
      have hno : ¬ ∀ i, i < wlen w → f (st + i) = wch w i := fun u => c (e.mpr (u q (by omega)))
      rwa [decide_eq_false hno] at h
theorem m_isWord (hR : zRok s) (hx : mx f n s) {j w : Nat} (h30 : s.1 164 30 = nI (stt f n j)) (h31 : s.1 164 31 = nI (enn f n j)) (hw : w < 18) {K : Bool → zS → Prop} (h : K (decide (tkJ f n j = nI (10000 + w))) s) : zc l g (d + 5) M_X8_isWord [.ref 164, .ref (2 + wsid w)] s (zKz K) := by
  have n4 := hx.2.1
  obtain ⟨b1, b2, b3⟩ := stt_b f n j
  obtain ⟨y1, y2, y3, y4⟩ := w_sid w hw
  have ht := tk_word (f := f) (n := n) (j := j) hw
  refine t_X8_isWord hR y1 ?_
  rw [hx.1, h30, h31, y3]
  by_cases c1 : stt f n j < n
  rotate_left
  · rw [if_pos (by rw [nI_eq (by omega) (by omega)]; omega)]
    rwa [decide_eq_false (fun w => c1 (ht.mp w).1)] at h
  have b4 := (b3 c1).2
  obtain ⟨len, hlen⟩ : ∃ len, enn f n j = stt f n j + len := ⟨enn f n j - stt f n j, by omega⟩
  rw [if_neg (by rw [nI_eq (by omega) (by omega)]; omega)]
  rw [hlen, nI_subN (by omega)]
  obtain ⟨o1, o2, o3, o4, o5, o6⟩ := w_ok w hw
  by_cases c2 : nI len = nI (wlen w)
  rotate_left
  · rw [if_neg c2]
    rw [nI_eq (by omega) (by omega)] at c2
    rwa [decide_eq_false (fun u => c2 (by have := (wm_i.mp (ht.mp u).2).1; omega))] at h
  rw [if_pos c2]
  rw [nI_eq (by omega) (by omega)] at c2
  have e : decide (tkJ f n j = nI (10000 + w)) = decide (∀ i, i < wlen w → f (stt f n j + i) = wch w i) := by
    rw [decide_eq_decide, ht, wm_i]
    exact ⟨fun u => u.2.2, fun u => ⟨c1, by omega, u⟩⟩
  rw [e] at h
  exact m_iw_34 (d := d) hR hx hw h30 (by rw [h31, hlen, c2]) (by omega) (wlen w) 0 (by omega) (fun i u => absurd u (Nat.not_lt_zero i)) h
end MLX
