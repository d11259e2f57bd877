/-! ===== rules: the class cuts its text into tokens ===== -/
def tx (f : Nat → Nat) (n : Nat) (s : zS) : Prop := s.1 75 1 = nI n ∧ n ≤ 400 ∧ ∀ k, k < n → s.1 76 k = nI (f k) ∧ f k ≤ 255
section CLX
variable {l : Launch} {g : zG} {d : Nat} {s : zS} {f : Nat → Nat} {n : Nat}
theorem c_isLetter (hR : zRok s) {c : Nat} (hc : c ≤ 255) {K : Bool → zS → Prop} (h : K (isLt c) s) : zc l g d M_X2_isLetter [.int (nI c)] s (zKz K) := by
  refine t_X2_isLetter hR (if2 ?_ h)
  rw [isLt_i, ti_lt, ti_lt, nI_toInt (by omega), show (97 : Int32).toInt = 97 from rfl, show (122 : Int32).toInt = 122 from rfl]
  omega
theorem c_isDigit (hR : zRok s) {c : Nat} (hc : c ≤ 255) {K : Bool → zS → Prop} (h : K (isDg c) s) : zc l g d M_X2_isDigit [.int (nI c)] s (zKz K) := by
  refine t_X2_isDigit hR (if2 ?_ h)
  rw [isDg_i, ti_lt, ti_lt, nI_toInt (by omega), show (48 : Int32).toInt = 48 from rfl, show (57 : Int32).toInt = 57 from rfl]
  omega
theorem c_tend_34 (hR : zRok s) (hx : tx f n s) {K : Int32 → zS → Prop} {b : Bool} : ∀ m k, k + m = n → K (nI (rn (if b = true then isLt else isDg) f n k)) s → zt l g (d + 1) M_X2_tokenEnd 34 [.ref 75, zJ, .int (zb b), .int (nI k)] [] s (zKi K) := by
  obtain ⟨h1, h2, h3⟩ := hx
  intro m
  induction m with
  | zero =>
    intro k hk h
    refine t_X2_tokenEnd_34 hR ?_
    rw [h1, if_pos (nI_le (by omega) (by omega))]
    rw [rn_e (by omega)] at h
    exact h
  | succ m ih =>
    intro k hk h
    obtain ⟨e1, e2⟩ := h3 k (by omega)
    refine t_X2_tokenEnd_34 hR ?_
    rw [h1, if_neg (nI_ge (by omega) (by omega)), nI_clamp (by omega), e1, ← nI_succ]
    have hv : vp_in (nI k) 400 := vp_in_nI (by omega) (by decide)
    cases b
    · rw [if_pos (show zb false = 0 from rfl)]
      simp only [Bool.false_eq_true, if_false] at h ih
      refine ⟨hv, c_isDigit hR e2 ⟨rfl, ?_⟩⟩
      by_cases c : isDg (f k) = true
      · rw [if_pos c]
        rw [rn_y (by omega) c] at h
        exact ih (k + 1) (by omega) h
      · rw [if_neg c]
        rw [rn_n (by omega) c] at h
        exact h
    · rw [if_neg (show ¬ zb true = 0 by decide)]
      simp only [if_true] at h ih
      refine ⟨hv, c_isLetter hR e2 ⟨rfl, ?_⟩⟩
      by_cases c : isLt (f k) = true
      · rw [if_pos c]
        rw [rn_y (by omega) c] at h
        exact ih (k + 1) (by omega) h
      · rw [if_neg c]
        rw [rn_n (by omega) c] at h
        exact h
theorem c_tokenEnd (hR : zRok s) (hx : tx f n s) {k : Nat} (hk : k < n) {K : Int32 → zS → Prop} (h : K (nI (tE f n k)) s) : zc l g (d + 1) M_X2_tokenEnd [.ref 75, .int (nI k)] s (zKi K) := by
  have hx' := hx
  obtain ⟨h1, h2, h3⟩ := hx
  obtain ⟨e1, e2⟩ := h3 k hk
  have hv : vp_in (nI k) 400 := vp_in_nI (by omega) (by decide)
  refine t_X2_tokenEnd hR ?_
  rw [nI_clamp (by omega), e1, ← nI_succ]
  unfold tE at h
  refine ⟨hv, c_isLetter hR e2 ⟨rfl, ?_⟩⟩
  by_cases c : isLt (f k) = true
  · rw [if_pos c, c]
    rw [if_pos c] at h
    exact c_tend_34 (b := true) hR hx' (n - (k + 1)) (k + 1) (by omega) h
  rw [if_neg c, Bool.eq_false_iff.mpr c]
  rw [if_neg c] at h
  refine ⟨hv, ?_⟩
  rw [e1]
  refine c_isDigit hR e2 ⟨rfl, ?_⟩
  by_cases c2 : isDg (f k) = true
  · rw [if_pos c2]
    rw [if_pos c2] at h
    exact c_tend_34 (b := false) hR hx' (n - (k + 1)) (k + 1) (by omega) h
  · rw [if_neg c2]
    rw [if_neg c2] at h
    exact h
theorem c_num_5 (hR : zRok s) (hx : tx f n s) {e : Nat} (he : e ≤ n) {K : Int32 → zS → Prop} : ∀ m k v, k + m = e → v ≤ 10000 → (∀ j, k ≤ j → j < e → 48 ≤ f j) → K (if nmL f m k v ≤ 9999 then nI (nmL f m k v) else 30001) s → zt l g (d + 1) M_X2_numberOf 5 [.ref 75, zJ, .int (nI e), .int (nI v), .int (nI k)] [] s (zKi K) := by
  obtain ⟨h1, h2, h3⟩ := hx
  intro m
  induction m with
  | zero =>
    intro k v hk hv hd h
    refine t_X2_numberOf_5 hR ?_
    rw [if_pos (nI_le (by omega) (by omega))]
    unfold nmL at h
    by_cases c : v ≤ 9999
    · rw [if_pos c] at h
      rw [if_neg (by rw [ti_lt, nI_toInt (by omega), show (9999 : Int32).toInt = 9999 from rfl]; omega)]; exact h
    · rw [if_neg c] at h
      rw [if_pos (by rw [ti_lt, nI_toInt (by omega), show (9999 : Int32).toInt = 9999 from rfl]; omega)]; exact h
  | succ m ih =>
    intro k v hk hv hd h
    obtain ⟨e1, e2⟩ := h3 k (by omega)
    have hdk := hd k (Nat.le_refl _) (by omega)
    refine t_X2_numberOf_5 hR ?_
    rw [if_neg (nI_ge (by omega) (by omega)), nI_clamp (by omega), e1, ← nI_succ]
    refine ⟨vp_in_nI (by omega) (by decide), ?_⟩
    intro v2 ev
    have e10 : (10 : Int32).toInt = 10 := rfl
    have e48 : (48 : Int32).toInt = 48 := rfl
    have a1 : (nI v * 10).toInt = v * 10 := by rw [ti_mul (by rw [nI_toInt (by omega), e10]; omega) (by rw [nI_toInt (by omega), e10]; omega), nI_toInt (by omega), e10]
    have a2 : (nI v * 10 + nI (f k)).toInt = v * 10 + f k := by rw [ti_add (by rw [a1, nI_toInt (by omega)]; omega) (by rw [a1, nI_toInt (by omega)]; omega), a1, nI_toInt (by omega)]
    have a3 : (nI v * 10 + nI (f k) - 48).toInt = v * 10 + f k - 48 := by rw [ti_sub (by rw [a2, e48]; omega) (by rw [a2, e48]; omega), a2, e48]
    have a4 : v2 = nI (min (v * 10 + f k - 48) 10000) := by
      rw [ev, ti_eq, zmin_i, a3, nI_toInt (by omega), show (10000 : Int32).toInt = 10000 from rfl]
      omega
    rw [a4]
    exact ih (k + 1) _ (by omega) (by omega) (fun j a b => hd j (by omega) b) h
theorem c_word_13 (hR : zRok s) (hx : tx f n s) {st e : Nat} (hs : st < n) (he : e ≤ n) {K : Int32 → zS → Prop} {w : Nat} (hw : w < 18) (h1 : wm f st e w = true → K (nI (10000 + w)) s)
    (h2 : ¬ wm f st e w = true → zt l g (d + 5) M_X2_wordOf 13 [.ref 75, .int (nI st), .int (nI e), .int (nI (10000 + (w + 1))), .int (nI st), .int 1, .int (nI (woff (w + 1))), zJ] [] s (zKi K)) :
    ∀ m q (b : Bool), q + m = wlen w → (b = true ↔ ∀ j, j < q → st + j < e ∧ f (st + j) = wch w j) → zt l g (d + 5) M_X2_wordOf 13 [.ref 75, .int (nI st), .int (nI e), .int (nI (10000 + w)), .int (nI (st + q)), .int (zb b), .int (nI (woff w + q)), zJ] [] s (zKi K) := by
  obtain ⟨t1, t2, t3⟩ := hx
  obtain ⟨o1, o2, o3, o4, o5, o6⟩ := w_ok w hw
  have o101 : zSl.getD 0 0 = 101 := rfl
  have olen : zslen 0 = nI 101 := rfl
  intro m
  induction m with
  | zero =>
    intro q b hq hb
    have hq2 : q = wlen w := by omega
    subst hq2
    refine t_X2_wordOf_13 hR ?_
    rw [olen, if_neg (nI_ge (by omega) (by omega)), nI_clamp (by omega), o3, if_pos rfl, ← nI_succ, ← nI_succ, show woff w + wlen w + 1 = woff (w + 1) by omega, show 10000 + w + 1 = 10000 + (w + 1) by omega, o101]
    refine ⟨vp_in_nI (by omega) (by decide), ?_⟩
    by_cases c : b = true
    · rw [if_neg (by rw [zb0]; exact fun u => u c)]
      by_cases c2 : nI (st + wlen w) = nI e
      · rw [if_pos c2]
        rw [nI_eq (by omega) (by omega)] at c2
        exact h1 (wm_i.mpr ⟨by omega, fun j hj => (hb.mp c j hj).2⟩)
      · rw [if_neg c2]
        rw [nI_eq (by omega) (by omega)] at c2
        exact h2 (fun u => by rw [wm_i] at u; omega)
    · rw [if_pos (zb0.mpr c)]
      exact h2 (fun u => by
        rw [wm_i] at u
        exact c (hb.mpr (fun j hj => ⟨by omega, u.2 j hj⟩)))
  | succ m ih =>
    intro q b hq hb
    obtain ⟨p1, p2, p3⟩ := o6 q (by omega)
    refine t_X2_wordOf_13 hR ?_
    rw [olen, if_neg (nI_ge (by omega) (by omega)), nI_clamp (by omega), p1, if_neg (by rw [show (32 : Int32) = nI 32 from rfl, nI_eq (by omega) (by decide)]; omega), ← nI_succ, ← nI_succ, o101]
    refine ⟨vp_in_nI (by omega) (by decide), ?_⟩
    have nx : ∀ b' : Bool, (b' = true ↔ b = true ∧ st + q < e ∧ f (st + q) = wch w q) → zt l g (d + 5) M_X2_wordOf 13 [.ref 75, .int (nI st), .int (nI e), .int (nI (10000 + w)), .int (nI (st + q + 1)), .int (zb b'), .int (nI (woff w + q + 1)), zJ] [] s (zKi K) := by
      intro b' hb'
      refine ih (q + 1) b' (by omega) ?_
      rw [hb', hb]
      constructor
      · rintro ⟨a, c⟩ j hj
        by_cases u : j = q
        · rw [u]; exact c
        · exact a j (by omega)
      · intro a
        exact ⟨fun j hj => a j (by omega), a q (by omega)⟩
    by_cases c : b = true
    · rw [if_neg (by rw [zb0]; exact fun u => u c)]
      by_cases c2 : nI e ≤ nI (st + q)
      · rw [if_pos c2]
        rw [nI_leI (by omega) (by omega)] at c2
        exact nx false ⟨fun u => absurd u (by decide), fun u => by omega⟩
      · rw [if_neg c2]
        rw [nI_leI (by omega) (by omega)] at c2
        obtain ⟨e1, e2⟩ := t3 (st + q) (by omega)
        rw [nI_clamp (by omega), e1]
        refine ⟨vp_in_nI (by omega) (by decide), ?_⟩
        by_cases c3 : nI (f (st + q)) = nI (wch w q)
        · rw [if_pos c3]
          rw [nI_eq (by omega) (by omega)] at c3
          exact nx true ⟨fun _ => ⟨c, by omega, c3⟩, fun _ => rfl⟩
        · rw [if_neg c3]
          rw [nI_eq (by omega) (by omega)] at c3
          exact nx false ⟨fun u => absurd u (by decide), fun u => absurd u.2.2 c3⟩
    · rw [if_pos (zb0.mpr c)]
      exact nx false ⟨fun u => absurd u (by decide), fun u => absurd u.1 c⟩
theorem c_wordOf (hR : zRok s) (hx : tx f n s) {st e : Nat} (hs : st < n) (he : e ≤ n) {K : Int32 → zS → Prop} (h : K (wdL f st e 18 0) s) : zc l g (d + 5) M_X2_wordOf [.ref 75, .int (nI st), .int (nI e)] s (zKi K) := by
  have key : ∀ m w, w + m = 18 → K (wdL f st e m w) s → zt l g (d + 5) M_X2_wordOf 13 [.ref 75, .int (nI st), .int (nI e), .int (nI (10000 + w)), .int (nI st), .int 1, .int (nI (woff w)), zJ] [] s (zKi K) := by
    intro m
    induction m with
    | zero =>
      intro w hw h
      have : w = 18 := by omega
      subst this
      refine t_X2_wordOf_13 hR ?_
      rw [if_pos (by decide)]
      exact h
    | succ m ih =>
      intro w hw h
      unfold wdL at h
      refine c_word_13 (d := d) hR hx hs he (w := w) (by omega) (fun c => ?_) (fun c => ?_) (wlen w) 0 true (by omega) ⟨fun _ j hj => by omega, fun _ => rfl⟩
      · rw [if_pos c] at h; exact h
      · rw [if_neg c] at h; exact ih (w + 1) (by omega) h
  exact t_X2_wordOf hR (key 18 0 rfl h)
theorem c_tokenOf (hR : zRok s) (hx : tx f n s) {k : Nat} (hk : k < n) {K : Int32 → zS → Prop} (h : K (tkv f k (tE f n k)) s) : zc l g (d + 6) M_X2_tokenOf [.ref 75, .int (nI k), .int (nI (tE f n k))] s (zKi K) := by
  have hx' := hx
  obtain ⟨h1, h2, h3⟩ := hx
  obtain ⟨e1, e2⟩ := h3 k hk
  have hv : vp_in (nI k) 400 := vp_in_nI (by omega) (by decide)
  have hb := tE_b (f := f) hk
  refine t_X2_tokenOf (d := d + 1) hR ?_
  rw [nI_clamp (by omega), e1]
  unfold tkv at h
  refine ⟨hv, c_isLetter hR e2 ⟨rfl, ?_⟩⟩
  by_cases c : isLt (f k) = true
  · rw [if_pos c] at h ⊢
    exact c_wordOf (d := d) hR hx' hk hb.2 ⟨rfl, h⟩
  rw [if_neg c] at h ⊢
  refine ⟨hv, ?_⟩
  rw [e1]
  refine c_isDigit hR e2 ⟨rfl, ?_⟩
  by_cases c2 : isDg (f k) = true
  · rw [if_pos c2] at h ⊢
    refine t_X2_numberOf (d := d + 4) hR ?_
    refine c_num_5 (d := d + 4) hR hx' hb.2 (tE f n k - k) k 0 (by omega) (by omega) (fun j a b => ?_) ⟨rfl, h⟩
    by_cases q : j = k
    · rw [q]; exact (isDg_i.mp c2).1
    · unfold tE at b
      rw [if_neg c, if_pos c2] at b
      have := (rn_b (p := isDg) (f := f) (n := n) (k := k + 1) (by omega)).2.2 j (by omega) b
      exact (isDg_i.mp this).1
  rw [if_neg c2] at h ⊢
  obtain ⟨s1, s2⟩ := sgn ⟨f k, by omega⟩
  simp only at s1 s2
  refine ⟨hv, ?_⟩
  rw [e1]
  by_cases c3 : isSg (f k) = true
  · rw [if_pos c3] at h
    rw [if_neg (fun u => by rw [s1.mp u] at c3; exact absurd c3 (by decide)), s2]
    exact ⟨hv, h⟩
  · rw [if_neg c3] at h
    rw [if_pos (s1.mpr (Bool.eq_false_iff.mpr c3))]
    exact h
end CLX
/-! the loop -/
def tkW : Nat → Nat → Prop := fun o j => o = 77 ∨ o = 78 ∨ (o = 75 ∧ j = 4)
/-- T tokens, and the end, stand in the rows -/
def tksI (f : Nat → Nat) (n T : Nat) (I : zM2) : Prop := stt f n T = n ∧ (∀ j, j < T → stt f n j < n) ∧ I 75 4 = nI (T + 1) ∧ (∀ j, j ≤ T → I 77 j = tkJ f n j ∧ I 78 j = nI (stt f n j))
section SPL
variable {l : Launch} {g : zG} {d : Nat} {s0 : zS} {f : Nat → Nat} {n : Nat}
theorem tx_E {s s' : zS} {S : Nat → Nat → Prop} (hS : ∀ o j, S o j → ¬ o = 76 ∧ ¬ (o = 75 ∧ j = 1)) (h : zE S s s') (hx : tx f n s) : tx f n s' := by
  refine ⟨by rw [h.2 75 1 (fun w => (hS _ _ w).2 ⟨rfl, rfl⟩)]; exact hx.1, hx.2.1, fun k hk => ?_⟩
  rw [h.2 76 k (fun w => (hS _ _ w).1 rfl)]
  exact hx.2.2 k hk
theorem c_split_9 {K : zS → Prop} (hR0 : zRok s0) (hx0 : tx f n s0) (hK : ∀ s' T, zE tkW s0 s' → tksI f n T s'.1 → T ≤ n → K s') :
    ∀ m k r t s, k + m = n → r ≤ k → t ≤ k → zE tkW s0 s → rn isBk f n k = stt f n t → (∀ j, j < t → stt f n j < n) → s.1 75 4 = nI t → (∀ j, j < t → s.1 77 j = tkJ f n j ∧ s.1 78 j = nI (stt f n j)) →
    zt l g (d + 7) M_X2_split 9 [.ref 75, .int (nI k), .int (nI r), zJ] [] s (zKv K) := by
  have hS : ∀ o j, tkW o j → ¬ o = 76 ∧ ¬ (o = 75 ∧ j = 1) := fun o j w => by unfold tkW at w; omega
  intro m
  induction m using Nat.strongRecOn with
  | ind m ih =>
    intro k r t s hk hr ht hE hst hlt h4 hrow
    have hR := zE_K hE hR0
    have hx := tx_E hS hE hx0
    obtain ⟨x1, x2, x3⟩ := hx
    by_cases hm : m = 0
    · have hkn : k = n := by omega
      subst hkn
      rw [rn_e (Nat.le_refl _)] at hst
      have ex : vp_in (s.1 75 4) 401 ∧ (vp_in (s.1 75 4) 401 ∧ K (zI (zI (zI s 77 ((s.1 75 4).toNatClampNeg) (30000)) 78 ((s.1 75 4).toNatClampNeg) (s.1 75 1)) 75 4 ((s.1 75 4) + (1)))) := by
        rw [h4, x1, nI_clamp (by omega), ← nI_succ]
        have hv : vp_in (nI t) 401 := vp_in_nI (by omega) (by decide)
        refine ⟨hv, hv, hK _ t (zE_i (zE_i (zE_i hE (Or.inl rfl)) (Or.inr (Or.inl rfl))) (Or.inr (Or.inr ⟨rfl, rfl⟩))) ⟨hst.symm, hlt, by rw [zI_eq], fun j hj => ?_⟩ ht⟩
        by_cases q : j = t
        · subst q
          rw [zI_o (by decide), zI_o (by decide), zI_eq, zI_o (by decide), zI_eq]
          exact ⟨(tk_end.mpr (by omega)).symm, by rw [← hst]⟩
        · rw [zI_o (by decide), zI_o (by decide), zI_k q, zI_o (by decide), zI_k q, zI_o (by decide)]
          exact hrow j (by omega)
      refine t_X2_split_9 hR ?_
      by_cases c : (400 : Int32) ≤ nI r
      · rw [if_pos c]; exact ex
      · rw [if_neg c, x1, if_pos (nI_le (by omega) (by omega)), ← x1]; exact ex
    have hkn : k < n := by omega
    obtain ⟨e1, e2⟩ := x3 k hkn
    have hb := tE_b (f := f) hkn
    have hv : vp_in (nI k) 400 := vp_in_nI (by omega) (by decide)
    refine t_X2_split_9 hR ?_
    rw [if_neg (by rw [ti_le, nI_toInt (by omega), show (400 : Int32).toInt = 400 from rfl]; omega), x1, if_neg (nI_ge (by omega) (by omega)), nI_clamp (by omega), ← nI_succ]
    refine c_tokenEnd (d := d + 5) hR ⟨x1, x2, x3⟩ hkn ⟨rfl, hv, ?_⟩
    rw [e1]
    have blank : isBk (f k) = true → zt l g (d + 7) M_X2_split 9 [.ref 75, .int (nI (tE f n k)), .int (nI (r + 1)), zJ] [] s (zKv K) := by
      intro c
      have c0 := isBk_i.mp c
      have et : tE f n k = k + 1 := by
        unfold tE
        rw [if_neg (by rw [isLt_i]; omega), if_neg (by rw [isDg_i]; omega)]
      rw [et]
      refine ih (n - (k + 1)) (by omega) (k + 1) (r + 1) t s (by omega) (by omega) (by omega) hE ?_ hlt h4 hrow
      rw [← rn_y hkn c]; exact hst
    by_cases c1 : nI (f k) = 32
    · rw [if_pos c1]
      rw [show (32 : Int32) = nI 32 from rfl, nI_eq (by omega) (by decide)] at c1
      exact blank (isBk_i.mpr (Or.inl c1))
    rw [if_neg c1]
    refine ⟨hv, ?_⟩
    by_cases c2 : nI (f k) = 10
    · rw [if_pos c2]
      rw [show (10 : Int32) = nI 10 from rfl, nI_eq (by omega) (by decide)] at c2
      exact blank (isBk_i.mpr (Or.inr c2))
    rw [if_neg c2]
    rw [show (32 : Int32) = nI 32 from rfl, nI_eq (by omega) (by decide)] at c1
    rw [show (10 : Int32) = nI 10 from rfl, nI_eq (by omega) (by decide)] at c2
    have nb : ¬ isBk (f k) = true := by rw [isBk_i]; omega
    rw [rn_n hkn nb] at hst
    refine c_tokenOf (d := d) hR ⟨x1, x2, x3⟩ hkn ⟨rfl, ?_⟩
    have hv4 : vp_in (s.1 75 4) 401 := by rw [h4]; exact vp_in_nI (by omega) (by decide)
    refine ⟨hv4, hv4, ?_⟩
    rw [h4, nI_clamp (by omega), ← nI_succ]
    have est : stt f n t < n := by omega
    refine ih (n - tE f n k) (by omega) (tE f n k) (r + 1) (t + 1) _ (by omega) (by omega) (by omega) (zE_i (zE_i (zE_i hE (Or.inl rfl)) (Or.inr (Or.inl rfl))) (Or.inr (Or.inr ⟨rfl, rfl⟩))) ?_ (fun j hj => ?_) (by rw [zI_eq]) (fun j hj => ?_)
    · rw [stt_s]
      unfold enn
      rw [if_pos est, ← hst]
    · by_cases q : j = t
      · rw [q]; exact est
      · exact hlt j (by omega)
    · by_cases q : j = t
      · subst q
        rw [zI_o (by decide), zI_o (by decide), zI_eq, zI_o (by decide), zI_eq]
        refine ⟨?_, by rw [← hst]⟩
        unfold tkJ enn
        rw [if_pos est, if_pos est, ← hst]
      · rw [zI_o (by decide), zI_o (by decide), zI_k q, zI_o (by decide), zI_k q, zI_o (by decide)]
        exact hrow j (by omega)
theorem c_split {K : zS → Prop} (hR0 : zRok s0) (hx0 : tx f n s0) (hK : ∀ s' T, zE tkW s0 s' → tksI f n T s'.1 → T ≤ n → K s') : zc l g (d + 7) M_X2_split [.ref 75] s0 (zKv K) := by
  refine t_X2_split (d := d + 6) hR0 ?_
  exact c_split_9 (d := d) (s0 := s0) hR0 hx0 hK n 0 0 0 (zI s0 75 4 0) (by omega) (Nat.le_refl _) (Nat.le_refl _) (zE_i0 (Or.inr (Or.inr ⟨rfl, rfl⟩))) rfl (fun j h => absurd h (by omega)) (by rw [zI_eq]; rfl) (fun j h => absurd h (by omega))
end SPL
