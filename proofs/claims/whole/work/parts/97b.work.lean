/-! ===== rules: what codes give ===== -/
def bnd (x : Int64) : Int32 := (zmaxL (-1000000) (zminL x 1000000)).toInt32
def jn (c a b : Int32) : Int32 := if c = 20042 then bnd (a.toInt64 * b.toInt64) else if c = 20043 then bnd (a.toInt64 + b.toInt64) else if c = 20045 then bnd (a.toInt64 - b.toInt64) else if c = 20060 then (if b ≤ a then 0 else 1) else if c = 20061 then (if a = b then 1 else 0) else a &&& b
def vlC (v : Nat → Int32) (c : Int32) : Int32 := if c ≤ 9999 then c else v (c - 10011).toNatClampNeg
def ev1 (v : Nat → Int32) (c : Int32) (st : List Int32) : List Int32 := if isVal c = true then vlC v c :: st else match st with
  | b :: a :: r => jn c a b :: r
  | _ => st
def evL (v : Nat → Int32) : List Int32 → List Int32 → Int32
  | [], st => st.getD 0 0
  | c :: cs, st => evL v cs (ev1 v c st)
/-- the pile, bottom first, in a row -/
def stk (row : Nat → Int32) (st : List Int32) : Prop := ∀ k, k < st.length → row k = st.getD (st.length - 1 - k) 0
theorem stk_push {row row' : Nat → Int32} {st : List Int32} {x : Int32} (h : stk row st) (h1 : row' st.length = x) (h2 : ∀ k, k < st.length → row' k = row k) : stk row' (x :: st) := by
  intro k hk
  rw [List.length_cons] at hk ⊢
  by_cases e : k = st.length
  · rw [e, h1, show st.length + 1 - 1 - st.length = 0 by omega]
    rfl
  · rw [h2 k (by omega), h k (by omega), show st.length + 1 - 1 - k = (st.length - 1 - k) + 1 by omega]
    rfl
theorem stk_two {row : Nat → Int32} {a b : Int32} {r : List Int32} (h : stk row (b :: a :: r)) : row r.length = a ∧ row (r.length + 1) = b := by
  have h1 := h r.length (by simp only [List.length_cons]; omega)
  have h2 := h (r.length + 1) (by simp only [List.length_cons]; omega)
  simp only [List.length_cons] at h1 h2
  rw [show r.length + 1 + 1 - 1 - r.length = 1 by omega] at h1
  rw [show r.length + 1 + 1 - 1 - (r.length + 1) = 0 by omega] at h2
  exact ⟨h1, h2⟩
theorem stk_join {row row' : Nat → Int32} {a b x : Int32} {r : List Int32} (h : stk row (b :: a :: r)) (h1 : row' r.length = x) (h2 : ∀ k, k < r.length → row' k = row k) : stk row' (x :: r) := by
  refine stk_push (row := row) (fun k hk => ?_) h1 h2
  have := h k (by simp only [List.length_cons]; omega)
  simp only [List.length_cons] at this
  rw [show r.length + 1 + 1 - 1 - k = (r.length - 1 - k) + 1 + 1 by omega] at this
  exact this
/-- kinds on the pile: true for what is 0 or 1 -/
def okT : List Bool → List Int32 → Prop
  | [], [] => True
  | t :: ts, x :: xs => (t = true → x = 0 ∨ x = 1) ∧ okT ts xs
  | _, _ => False
theorem okT_l : ∀ ts xs, okT ts xs → ts.length = xs.length := by
  intro ts
  induction ts with
  | nil =>
    intro xs h
    cases xs with
    | nil => rfl
    | cons x xs => exact absurd h (fun w => w)
  | cons t ts ih =>
    intro xs h
    cases xs with
    | nil => exact absurd h (fun w => w)
    | cons x xs => rw [List.length_cons, List.length_cons, ih xs h.2]
theorem okT_2 {a b : Bool} {r : List Bool} {xs : List Int32} (h : okT (b :: a :: r) xs) : ∃ y x zs, xs = y :: x :: zs ∧ (b = true → y = 0 ∨ y = 1) ∧ (a = true → x = 0 ∨ x = 1) ∧ okT r zs := by
  cases xs with
  | nil => exact absurd h (fun w => w)
  | cons y xs =>
    cases xs with
    | nil => exact absurd h.2 (fun w => w)
    | cons x zs => exact ⟨y, x, zs, rfl, h.1, h.2.1, h.2.2⟩
/-- what a code that isn't a value finds -/
theorem okC_op {c : Int32} {cs : List Int32} {ts : List Bool} {xs : List Int32} (hv : ¬ isVal c = true) (h : okC (c :: cs) ts = true) (ht : okT ts xs) :
    ∃ y x zs r, xs = y :: x :: zs ∧ okT r zs ∧ ((isOp c = true ∧ okC cs (false :: r) = true) ∨ (isCp c = true ∧ okC cs (true :: r) = true) ∨ (c = 10003 ∧ (x = 0 ∨ x = 1) ∧ (y = 0 ∨ y = 1) ∧ okC cs (true :: r) = true)) := by
  unfold okC at h
  rw [if_neg hv] at h
  cases ts with
  | nil => exact absurd h (by simp)
  | cons b ts =>
    cases ts with
    | nil => exact absurd h (by simp)
    | cons a r =>
      obtain ⟨y, x, zs, e, hy, hx, hr⟩ := okT_2 ht
      refine ⟨y, x, zs, r, e, hr, ?_⟩
      simp only at h
      by_cases c1 : isOp c = true
      · rw [if_pos c1] at h; exact Or.inl ⟨c1, h⟩
      rw [if_neg c1] at h
      by_cases c2 : isCp c = true
      · rw [if_pos c2] at h; exact Or.inr (Or.inl ⟨c2, h⟩)
      rw [if_neg c2] at h
      rw [Bool.and_eq_true, Bool.and_eq_true, Bool.and_eq_true, decide_eq_true_eq] at h
      exact Or.inr (Or.inr ⟨h.1, hx h.2.1, hy h.2.2.1, h.2.2.2⟩)
theorem okC_val {c : Int32} {cs : List Int32} {ts : List Bool} (hv : isVal c = true) (h : okC (c :: cs) ts = true) : ts.length < 24 ∧ okC cs (false :: ts) = true := by
  unfold okC at h
  rw [if_pos hv, Bool.and_eq_true, decide_eq_true_eq] at h
  exact h
theorem jn_cp {c a b : Int32} (h : isCp c = true) : jn c a b = 0 ∨ jn c a b = 1 := by
  rcases cp_i.mp h with h | h <;> subst h <;> unfold jn
  · rw [if_neg (by decide), if_neg (by decide), if_neg (by decide), if_pos rfl]
    by_cases w : b ≤ a
    · rw [if_pos w]; exact Or.inl rfl
    · rw [if_neg w]; exact Or.inr rfl
  · rw [if_neg (by decide), if_neg (by decide), if_neg (by decide), if_neg (by decide), if_pos rfl]
    by_cases w : a = b
    · rw [if_pos w]; exact Or.inr rfl
    · rw [if_neg w]; exact Or.inl rfl
theorem jn_an {a b : Int32} (ha : a = 0 ∨ a = 1) (hb : b = 0 ∨ b = 1) : jn 10003 a b = 0 ∨ jn 10003 a b = 1 := by
  rcases ha with ha | ha <;> rcases hb with hb | hb <;> subst ha <;> subst hb <;> decide
/-- one step on the pile, typed -/
theorem ev1_ok {v : Nat → Int32} {c : Int32} {cs : List Int32} {ts : List Bool} {xs : List Int32} (h : okC (c :: cs) ts = true) (ht : okT ts xs) (hl : ts.length ≤ 24) : ∃ ts', okC cs ts' = true ∧ okT ts' (ev1 v c xs) ∧ ts'.length ≤ 24 := by
  by_cases hv : isVal c = true
  · obtain ⟨h1, h2⟩ := okC_val hv h
    refine ⟨false :: ts, h2, ?_, by rw [List.length_cons]; omega⟩
    unfold ev1
    rw [if_pos hv]
    exact ⟨fun w => absurd w (by decide), ht⟩
  · obtain ⟨y, x, zs, r, e, hr, w⟩ := okC_op hv h ht
    have hl1 := okT_l _ _ ht
    have hl2 := okT_l _ _ hr
    rw [e, List.length_cons, List.length_cons] at hl1
    subst e
    unfold ev1
    rw [if_neg hv]
    rcases w with ⟨w1, w2⟩ | ⟨w1, w2⟩ | ⟨w1, w2, w3, w4⟩
    · exact ⟨_, w2, ⟨fun u => absurd u (by decide), hr⟩, by rw [List.length_cons]; omega⟩
    · exact ⟨_, w2, ⟨fun _ => jn_cp w1, hr⟩, by rw [List.length_cons]; omega⟩
    · subst w1; exact ⟨_, w4, ⟨fun _ => jn_an w2 w3, hr⟩, by rw [List.length_cons]; omega⟩
/-- the six codes that join -/
theorem op_cs {c : Int32} {y x : Int32} {cs : List Int32} {r : List Bool} (h : (isOp c = true ∧ okC cs (false :: r) = true) ∨ (isCp c = true ∧ okC cs (true :: r) = true) ∨ (c = 10003 ∧ (x = 0 ∨ x = 1) ∧ (y = 0 ∨ y = 1) ∧ okC cs (true :: r) = true)) : c = 20042 ∨ c = 20043 ∨ c = 20045 ∨ c = 20060 ∨ c = 20061 ∨ (c = 10003 ∧ (x = 0 ∨ x = 1) ∧ (y = 0 ∨ y = 1)) := by
  rcases h with h | h | h
  · have := h.1
    unfold isOp at this
    simp at this
    rcases this with (u | u) | u
    · exact Or.inl u
    · exact Or.inr (Or.inl u)
    · exact Or.inr (Or.inr (Or.inl u))
  · rcases cp_i.mp h.1 with u | u
    · exact Or.inr (Or.inr (Or.inr (Or.inl u)))
    · exact Or.inr (Or.inr (Or.inr (Or.inr (Or.inl u))))
  · exact Or.inr (Or.inr (Or.inr (Or.inr (Or.inr ⟨h.1, h.2.1, h.2.2.1⟩))))
section CW
variable {l : Launch} {g : zG} {d : Nat} {s : zS}
theorem c_bounded (hR : zRok s) {x : Int64} {K : Int32 → zS → Prop} (h : K (bnd x) s) : zc l g (d + 1) M_X3_bounded [.long x] s (zKi K) := t_X3_bounded hR h
theorem c_joinBy (hR : zRok s) {c a b : Int32} {K : Int32 → zS → Prop} (h : K (jn c a b) s) : zc l g (d + 2) M_X3_joinedBy [.int c, .int a, .int b] s (zKi K) := by
  refine t_X3_joinedBy (d := d + 1) hR ?_
  unfold jn at h
  by_cases c1 : c = 20042
  · rw [if_pos c1] at h ⊢; exact c_bounded hR ⟨rfl, h⟩
  rw [if_neg c1] at h ⊢
  by_cases c2 : c = 20043
  · rw [if_pos c2] at h ⊢; exact c_bounded hR ⟨rfl, h⟩
  rw [if_neg c2] at h ⊢
  by_cases c3 : c = 20045
  · rw [if_pos c3] at h ⊢; exact c_bounded hR ⟨rfl, h⟩
  rw [if_neg c3] at h ⊢
  by_cases c4 : c = 20060
  · rw [if_pos c4] at h ⊢
    by_cases w : b ≤ a
    · rw [if_pos w] at h ⊢; exact h
    · rw [if_neg w] at h ⊢; exact h
  rw [if_neg c4] at h ⊢
  by_cases c5 : c = 20061
  · rw [if_pos c5] at h ⊢
    by_cases w : a = b
    · rw [if_pos w] at h ⊢; exact h
    · rw [if_neg w] at h ⊢; exact h
  rw [if_neg c5] at h ⊢
  exact h
def vaS (o : Nat) : Nat → Nat → Prop := fun p _ => p = o + 5
theorem c_value_6 {o : Nat} (ho : o = 79 ∨ o = 85) {sB : zS} (hR0 : zRok sB) {v : Nat → Int32} (hv : ∀ k, k < 7 → sB.1 91 k = v k) {e : Nat} (he : e ≤ 400) {r : Int32} {K : Int32 → zS → Prop} (hK : ∀ s', zE (vaS o) sB s' → K r s') :
    ∀ cs i st ts s, i + cs.length = e → (∀ k, k < cs.length → sB.1 (o + 1) (i + k) = cs.getD k 0) → zE (vaS o) sB s → okC cs ts = true → okT ts st → ts.length ≤ 24 → stk (s.1 (o + 5)) st → evL v cs st = r →
    zt l g (d + 3) M_X3_valueOf 6 [.ref o, zJ, .int (nI e), .ref 91, .int (nI st.length), .int (nI i), zJ, zJ] [] s (zKi K) := by
  intro cs
  induction cs with
  | nil =>
    intro i st ts s hi hrow hE hok ht h24 hst hr
    have hi2 : i = e := hi
    subst hi2
    have hl := okT_l ts st ht
    have h1 : ts.length = 1 := by unfold okC at hok; simpa using hok
    refine t_X3_valueOf_6 (d := d + 2) (zE_K hE hR0) ho ?_
    rw [if_pos (nI_le (Nat.le_refl _) (by omega)), if_pos (by rw [← hl, h1]; rfl)]
    have := hst 0 (by omega)
    rw [show st.length - 1 - 0 = 0 by omega] at this
    rw [this, show st.getD 0 0 = r from hr]
    exact hK s hE
  | cons c cs ih =>
    intro i st ts s hi hrow hE hok ht h24 hst hr
    rw [List.length_cons] at hi
    have hR := zE_K hE hR0
    have hl := okT_l ts st ht
    have e1 : s.1 (o + 1) i = c := by
      rw [hE.2 (o + 1) i (by unfold vaS; omega)]
      exact hrow 0 (by simp)
    have hrow' : ∀ k, k < cs.length → sB.1 (o + 1) (i + 1 + k) = cs.getD k 0 := fun k hk => by
      have := hrow (k + 1) (by rw [List.length_cons]; omega)
      rw [show i + 1 + k = i + (k + 1) by omega, this]
      rfl
    obtain ⟨ts', ok', ht', h24'⟩ := ev1_ok (v := v) hok ht h24
    have hr' : evL v cs (ev1 v c st) = r := hr
    refine t_X3_valueOf_6 (d := d + 2) hR ho ?_
    rw [if_neg (nI_ge (by omega) (by omega)), if_neg (lit_ge (c := 400) (b := 400) rfl (by omega) (by decide)), nI_clamp (by omega), e1, ← nI_succ (n := i)]
    refine ⟨vp_in_nI (by omega) (by decide), ?_⟩
    intro vv ev2
    rw [ev2]
    by_cases cv : isVal c = true
    · obtain ⟨t24, -⟩ := okC_val cv hok
      have push : ∀ x : Int32, ev1 v c st = x :: st → (if nI st.length < 24 then (vp_in (nI st.length) 24 ∧ zt l g (d + 3) M_X3_valueOf 6 [.ref o, zJ, .int (nI e), .ref 91, .int (nI st.length + 1), .int (nI (i + 1)), zJ, zJ] [] (zI s (o + 5) (nI st.length).toNatClampNeg x) (zKi K)) else K 0 s) := by
        intro x ex
        rw [if_pos (lit_lt (c := 24) (b := 24) rfl (by omega) (by decide)), ← nI_succ, nI_clamp (by omega)]
        refine ⟨vp_in_nI (by omega) (by decide), ?_⟩
        rw [ex] at ht' hr'
        have := ih (i + 1) (x :: st) ts' (zI s (o + 5) st.length x) (by omega) hrow' (zE_i hE rfl) ok' ht' h24' (stk_push hst zI_eq (fun k hk => zI_k (by omega))) hr'
        rw [List.length_cons] at this
        exact this
      by_cases c9 : c ≤ 9999
      · have := push c (by unfold ev1 vlC; rw [if_pos cv, if_pos c9])
        rw [if_pos c9, if_pos c9]
        exact this
      · have cv2 := cv
        unfold isVal at cv2
        simp only [Bool.and_eq_true, Bool.or_eq_true, decide_eq_true_eq] at cv2
        have c10 : 10011 ≤ c ∧ c < 10018 := by
          rcases cv2.2 with w | w
          · exact absurd w c9
          · exact w
        rw [ti_le, ti_lt, show (10011 : Int32).toInt = 10011 from rfl, show (10018 : Int32).toInt = 10018 from rfl] at c10
        have es : (c - 10011).toInt = c.toInt - 10011 := by rw [ti_sub (by rw [show (10011 : Int32).toInt = 10011 from rfl]; omega) (by rw [show (10011 : Int32).toInt = 10011 from rfl]; omega), show (10011 : Int32).toInt = 10011 from rfl]
        have en : c - 10011 = nI (c.toInt - 10011).toNat := by rw [ti_eq, es, nI_toInt (by omega)]; omega
        have ek : (c - 10011).toNatClampNeg = (c.toInt - 10011).toNat := by rw [en, nI_clamp (by omega)]
        have hv7 : s.1 91 (c - 10011).toNatClampNeg = v (c - 10011).toNatClampNeg := by
          rw [hE.2 91 _ (by unfold vaS; omega)]
          exact hv _ (by rw [ek]; omega)
        have := push (v (c - 10011).toNatClampNeg) (by unfold ev1 vlC; rw [if_pos cv, if_neg c9])
        rw [if_neg c9, if_neg (by rw [ti_lt, es, show (0 : Int32).toInt = 0 from rfl]; omega), if_pos (by rw [ti_lt, es, show (7 : Int32).toInt = 7 from rfl]; omega), if_neg c9]
        refine ⟨by rw [en]; exact vp_in_nI (by omega) (by decide), ?_⟩
        intro v5 e5
        rw [hv7] at e5
        rw [e5]
        exact this
    · obtain ⟨y, x, zs, r', exs, hr2, hcase⟩ := okC_op cv hok ht
      subst exs
      obtain ⟨sa, sb⟩ := stk_two hst
      have ej : ev1 v c (y :: x :: zs) = jn c x y :: zs := by unfold ev1; rw [if_neg cv]
      rw [ej] at ht' hr'
      have hl1 : zs.length + 2 ≤ 24 := by
        rw [List.length_cons, List.length_cons] at hl
        omega
      have hL : (y :: x :: zs).length = zs.length + 2 := rfl
      have e2 : nI (zs.length + 2) - 2 = nI zs.length := by
        have := nI_subN (a := 2) (b := zs.length) (by omega)
        rwa [show 2 + zs.length = zs.length + 2 by omega] at this
      have hcs := op_cs hcase
      have h9 : ¬ c ≤ 9999 := by
        rcases hcs with u | u | u | u | u | ⟨u, -⟩ <;> rw [u] <;> decide
      have h07 : c - 10011 < 0 ∨ (¬ c - 10011 < 0 ∧ ¬ c - 10011 < 7) := by
        rcases hcs with u | u | u | u | u | ⟨u, -⟩ <;> rw [u] <;> decide
      have A : (if 2 ≤ nI (zs.length + 2) then (vp_in (nI (zs.length + 2) - 2) 24 ∧ (vp_in ((nI (zs.length + 2) - 2) + 1) 24 ∧ (zc l g (d + 2) M_X3_joinedBy [.int c, .int (s.1 (o + 5) ((nI (zs.length + 2) - 2).toNatClampNeg)), .int (s.1 (o + 5) (((nI (zs.length + 2) - 2) + 1).toNatClampNeg))] s (zKi (fun r10 s9 => s9.2.2.1 = s.2.2.1 ∧ (if (nI (zs.length + 2) - 2) < 24 then (vp_in (nI (zs.length + 2) - 2) 24 ∧ zt l g (d + 3) M_X3_valueOf 6 [.ref o, zJ, .int (nI e), .ref 91, .int ((nI (zs.length + 2) - 2) + 1), .int (nI (i + 1)), zJ, zJ] [] (zI s9 (o + 5) ((nI (zs.length + 2) - 2).toNatClampNeg) r10) (zKi K)) else K 0 s9)))))) else K 0 s) := by
        rw [if_pos (lit_le (c := 2) (b := 2) rfl (by omega) (by omega)), e2, nI_clamp (by omega), ← nI_succ, nI_clamp (by omega), sa, sb]
        refine ⟨vp_in_nI (by omega) (by decide), vp_in_nI (by omega) (by decide), c_joinBy (d := d) hR ⟨rfl, ?_⟩⟩
        rw [if_pos (lit_lt (c := 24) (b := 24) rfl (by omega) (by decide))]
        refine ⟨vp_in_nI (by omega) (by decide), ?_⟩
        have := ih (i + 1) (jn c x y :: zs) ts' (zI s (o + 5) zs.length (jn c x y)) (by omega) hrow' (zE_i hE rfl) ok' ht' h24' (stk_join hst zI_eq (fun k hk => zI_k (by omega))) hr'
        rw [List.length_cons] at this
        exact this
      rw [hL, if_neg h9]
      rcases h07 with c0 | ⟨c0, c7⟩
      · rw [if_pos c0]; exact A
      · rw [if_neg c0, if_neg c7]; exact A
theorem c_value (hR : zRok s) {o : Nat} (ho : o = 79 ∨ o = 85) {v : Nat → Int32} (hv : ∀ k, k < 7 → s.1 91 k = v k) {a e : Nat} (he : e ≤ 400) {cs : List Int32} (hl : a + cs.length = e) (hrow : ∀ k, k < cs.length → s.1 (o + 1) (a + k) = cs.getD k 0) (hok : okC cs [] = true) {K : Int32 → zS → Prop} (hK : ∀ s', zE (vaS o) s s' → K (evL v cs []) s') : zc l g (d + 3) M_X3_valueOf [.ref o, .int (nI a), .int (nI e), .ref 91] s (zKi K) :=
  t_X3_valueOf (d := d + 2) hR ho (c_value_6 (d := d) ho hR hv he hK cs a [] [] s hl hrow zE_r hok trivial (by decide) (fun k hk => absurd hk (Nat.not_lt_zero k)) rfl)
end CW
/-! ===== rules: what marks give, on the reference's side ===== -/
theorem min_c (x y : Int64) : zminL x y = zminL y x := by
  unfold zminL
  by_cases h : y < x
  · rw [if_pos h, if_neg (by rw [Int64.lt_iff_toInt_lt] at *; omega)]
  · rw [if_neg h]
    by_cases h2 : x < y
    · rw [if_pos h2]
    · rw [if_neg h2]
      rw [Int64.lt_iff_toInt_lt] at h h2
      exact Int64.toInt_inj.mp (by omega)
section MW
variable {l : Launch} {g : zG} {d : Nat} {s : zS}
theorem m_brought (hR : zRok s) {x : Int64} {K : Int32 → zS → Prop} (h : K (bnd x) s) : zc l g (d + 1) M_X8_brought [.long x] s (zKi K) := by
  refine t_X8_brought hR ?_
  unfold bnd at h
  rw [min_c] at h
  exact h
theorem lg_ge {a b : Int32} : 0 ≤ lg_cmp a.toInt64 b.toInt64 ↔ b ≤ a := by
  have h := zcmp_lt (x := a.toInt64) (y := b.toInt64)
  rw [ti_le]
  rw [Int64.lt_iff_toInt_lt, Int32.toInt_toInt64, Int32.toInt_toInt64] at h
  rw [ti_le, show (0 : Int32).toInt = 0 from rfl]
  rw [ti_lt, show (0 : Int32).toInt = 0 from rfl] at h
  omega
theorem lg_eq {a b : Int64} : lg_cmp a b = 0 ↔ a = b := by
  have h1 := zcmp_lt (x := a) (y := b)
  have h2 := zcmp_gt (x := a) (y := b)
  rw [Int64.lt_iff_toInt_lt, ti_lt, show (0 : Int32).toInt = 0 from rfl] at h1 h2
  rw [ti_eq, show (0 : Int32).toInt = 0 from rfl, ← Int64.toInt_inj]
  omega
theorem lg_eqi {a b : Int32} : lg_cmp a.toInt64 b.toInt64 = 0 ↔ a = b := by
  rw [lg_eq, ← Int64.toInt_inj, Int32.toInt_toInt64, Int32.toInt_toInt64, Int32.toInt_inj]
def pilS : Nat → Nat → Prop := fun p _ => p = 260
theorem m_work_4 {sB : zS} (hR0 : zRok sB) {v : Nat → Int32} (hv : ∀ k, k < 7 → sB.1 261 k = v k) {p a N : Nat} (hp : p < 13) (h249 : sB.1 249 p = nI a) (h252 : sB.1 252 p = nI N) (haN : a + N ≤ 400) {r : Int32} {K : Int32 → zS → Prop} (hK : ∀ s', zE pilS sB s' → K r s') :
    ∀ cs i st ts s, i + cs.length = N → (∀ k, k < cs.length → sB.1 246 (a + i + k) = mu (cs.getD k 0)) → zE pilS sB s → okC cs ts = true → okT ts st → ts.length ≤ 24 → stk (s.1 260) st → evL v cs st = r →
    zt l g (d + 2) M_X8_worked 4 [.ref 164, .int (nI p), .int (nI st.length), .int (nI i), zJ, zJ, zJ, zJ, zJ] [] s (zKi K) := by
  have hvp : vp_in (nI p) 13 := vp_in_nI hp (by decide)
  intro cs
  induction cs with
  | nil =>
    intro i st ts s hi hrow hE hok ht h24 hst hr
    have hi2 : i = N := hi
    subst hi2
    have hl := okT_l ts st ht
    have h1 : ts.length = 1 := by unfold okC at hok; simpa using hok
    refine t_X8_worked_4 (d := d + 1) (zE_K hE hR0) ?_
    rw [nI_clamp (by omega), hE.2 252 p (by unfold pilS; omega), h252, if_pos (nI_le (Nat.le_refl _) (by omega))]
    refine ⟨hvp, ?_⟩
    have := hst 0 (by omega)
    rw [show st.length - 1 - 0 = 0 by omega] at this
    rw [this, show st.getD 0 0 = r from hr]
    exact hK s hE
  | cons c cs ih =>
    intro i st ts s hi hrow hE hok ht h24 hst hr
    rw [List.length_cons] at hi
    have hR := zE_K hE hR0
    have hl := okT_l ts st ht
    have e0 : sB.1 246 (a + i) = mu c := hrow 0 (by simp)
    have hrow' : ∀ k, k < cs.length → sB.1 246 (a + (i + 1) + k) = mu (cs.getD k 0) := fun k hk => by
      have := hrow (k + 1) (by rw [List.length_cons]; omega)
      rw [show a + (i + 1) + k = a + i + (k + 1) by omega, this]
      rfl
    obtain ⟨ts', ok', ht', h24'⟩ := ev1_ok (v := v) hok ht h24
    have hr' : evL v cs (ev1 v c st) = r := hr
    have eai : nI a + nI i = nI (a + i) := by rw [ti_eq, ti_add (by rw [nI_toInt (by omega), nI_toInt (by omega)]; omega) (by rw [nI_toInt (by omega), nI_toInt (by omega)]; omega), nI_toInt (by omega), nI_toInt (by omega), nI_toInt (by omega)]; omega
    refine t_X8_worked_4 (d := d + 1) hR ?_
    rw [nI_clamp (by omega), hE.2 252 p (by unfold pilS; omega), h252, if_neg (nI_ge (by omega) (by omega)), hE.2 249 p (by unfold pilS; omega), h249, eai, nI_clamp (by omega), hE.2 246 (a + i) (by unfold pilS; omega), e0, ← nI_succ]
    refine ⟨hvp, hvp, vp_in_nI (by omega) (by decide), ?_⟩
    intro v4 ev4
    by_cases cv : isVal c = true
    · obtain ⟨t24, -⟩ := okC_val cv hok
      have cv2 := cv
      unfold isVal at cv2
      simp only [Bool.and_eq_true, Bool.or_eq_true, decide_eq_true_eq] at cv2
      have push : ∀ x : Int32, ev1 v c st = x :: st → vp_in (nI st.length) 420 ∧ zt l g (d + 2) M_X8_worked 4 [.ref 164, .int (nI p), .int (nI st.length + 1), .int (nI (i + 1)), zJ, zJ, zJ, zJ, zJ] [] (zI s 260 (nI st.length).toNatClampNeg x) (zKi K) := by
        intro x ex
        rw [← nI_succ, nI_clamp (by omega)]
        refine ⟨vp_in_nI (by omega) (by decide), ?_⟩
        rw [ex] at ht' hr'
        have := ih (i + 1) (x :: st) ts' (zI s 260 st.length x) (by omega) hrow' (zE_i hE rfl) ok' ht' h24' (stk_push hst zI_eq (fun k hk => zI_k (by omega))) hr'
        rw [List.length_cons] at this
        exact this
      by_cases c9 : c ≤ 9999
      · have := push c (by unfold ev1 vlC; rw [if_pos cv, if_pos c9])
        rw [mu_le c9] at ev4
        subst ev4
        rw [ti_le, show (9999 : Int32).toInt = 9999 from rfl] at c9
        rw [if_neg (by rw [ti_le, show (20001 : Int32).toInt = 20001 from rfl]; omega), if_neg (by rw [ti_le, show (10000 : Int32).toInt = 10000 from rfl]; omega)]
        exact this
      · have c10 : 10011 ≤ c ∧ c < 10018 := by
          rcases cv2.2 with w | w
          · exact absurd w c9
          · exact w
        have em : mu c = c - 11 := by
          unfold mu
          rw [if_neg c9, if_pos c10.2, if_neg (fun u => by rw [u] at c10; exact absurd c10.1 (by decide))]
        rw [em] at ev4
        rw [ti_le, ti_lt, show (10011 : Int32).toInt = 10011 from rfl, show (10018 : Int32).toInt = 10018 from rfl] at c10
        have e11 : (c - 11).toInt = c.toInt - 11 := by rw [ti_sub (by rw [show (11 : Int32).toInt = 11 from rfl]; omega) (by rw [show (11 : Int32).toInt = 11 from rfl]; omega), show (11 : Int32).toInt = 11 from rfl]
        have e4 : v4.toInt = c.toInt - 11 := by rw [ev4, e11]
        have es : (c - 10011).toInt = c.toInt - 10011 := by rw [ti_sub (by rw [show (10011 : Int32).toInt = 10011 from rfl]; omega) (by rw [show (10011 : Int32).toInt = 10011 from rfl]; omega), show (10011 : Int32).toInt = 10011 from rfl]
        have eq : v4 - 10000 = c - 10011 := by rw [ti_eq, ti_sub (by rw [show (10000 : Int32).toInt = 10000 from rfl]; omega) (by rw [show (10000 : Int32).toInt = 10000 from rfl]; omega), show (10000 : Int32).toInt = 10000 from rfl, es]; omega
        have en : c - 10011 = nI (c.toInt - 10011).toNat := by rw [ti_eq, es, nI_toInt (by omega)]; omega
        have ek : (c - 10011).toNatClampNeg = (c.toInt - 10011).toNat := by rw [en, nI_clamp (by omega)]
        have hv7 : s.1 261 (c - 10011).toNatClampNeg = v (c - 10011).toNatClampNeg := by
          rw [hE.2 261 _ (by unfold pilS; omega)]
          exact hv _ (by rw [ek]; omega)
        have := push (v (c - 10011).toNatClampNeg) (by unfold ev1 vlC; rw [if_pos cv, if_neg c9])
        rw [if_neg (by rw [ti_le, show (20001 : Int32).toInt = 20001 from rfl]; omega), if_pos (by rw [ti_le, show (10000 : Int32).toInt = 10000 from rfl]; omega), eq, hv7]
        refine ⟨by rw [en]; exact vp_in_nI (by omega) (by decide), this⟩
    · obtain ⟨y, x, zs, r', exs, hr2, hcase⟩ := okC_op cv hok ht
      subst exs
      obtain ⟨sa, sb⟩ := stk_two hst
      have ej : ev1 v c (y :: x :: zs) = jn c x y :: zs := by unfold ev1; rw [if_neg cv]
      rw [ej] at ht' hr'
      have hl1 : zs.length + 2 ≤ 24 := by
        rw [List.length_cons, List.length_cons] at hl
        omega
      have hL : (y :: x :: zs).length = zs.length + 2 := rfl
      have e1 : nI (zs.length + 2) - 1 = nI (zs.length + 1) := by
        have := nI_subN (a := 1) (b := zs.length + 1) (by omega)
        rwa [show 1 + (zs.length + 1) = zs.length + 2 by omega] at this
      have e2 : nI (zs.length + 1) - 1 = nI zs.length := by
        have := nI_subN (a := 1) (b := zs.length) (by omega)
        rwa [show 1 + zs.length = zs.length + 1 by omega] at this
      have hcs := op_cs hcase
      have A : ∀ w, w = jn c x y → vp_in (nI zs.length) 420 ∧ zt l g (d + 2) M_X8_worked 4 [.ref 164, .int (nI p), .int (nI (zs.length + 1)), .int (nI (i + 1)), zJ, zJ, zJ, zJ, zJ] [] (zI s 260 zs.length w) (zKi K) := by
        intro w ew
        subst ew
        refine ⟨vp_in_nI (by omega) (by decide), ?_⟩
        have := ih (i + 1) (jn c x y :: zs) ts' (zI s 260 zs.length (jn c x y)) (by omega) hrow' (zE_i hE rfl) ok' ht' h24' (stk_join hst zI_eq (fun k hk => zI_k (by omega))) hr'
        rw [List.length_cons] at this
        exact this
      rw [hL, e1, e2, nI_clamp (by omega), nI_clamp (by omega), sa, sb]
      have h20 : 20001 ≤ v4 := by
        rw [ev4]
        rcases hcs with u | u | u | u | u | ⟨u, -⟩ <;> rw [u] <;> decide
      rw [if_pos h20]
      refine ⟨vp_in_nI (by omega) (by decide), vp_in_nI (by omega) (by decide), ?_⟩
      rcases hcs with u | u | u | u | u | ⟨u, ux, uy⟩
      · have e4 : v4 = 20003 := by rw [ev4, u]; decide
        rw [e4, if_neg (by decide), if_neg (by decide), if_pos rfl]
        refine m_brought (d := d) hR ⟨rfl, ?_⟩
        exact A _ (by rw [u]; rfl)
      · have e4 : v4 = 20001 := by rw [ev4, u]; decide
        rw [e4, if_pos rfl]
        refine m_brought (d := d) hR ⟨rfl, ?_⟩
        exact A _ (by rw [u]; rfl)
      · have e4 : v4 = 20002 := by rw [ev4, u]; decide
        rw [e4, if_neg (by decide), if_pos rfl]
        refine m_brought (d := d) hR ⟨rfl, ?_⟩
        exact A _ (by rw [u]; rfl)
      · have e4 : v4 = 20004 := by rw [ev4, u]; decide
        rw [e4, if_neg (by decide), if_neg (by decide), if_neg (by decide), if_pos rfl]
        have ej2 : jn c x y = if y ≤ x then 0 else 1 := by rw [u]; rfl
        by_cases w : y ≤ x
        · rw [if_pos (lg_ge.mpr w)]
          exact A _ (by rw [ej2, if_pos w])
        · rw [if_neg (fun z => w (lg_ge.mp z))]
          exact A _ (by rw [ej2, if_neg w])
      · have e4 : v4 = 20005 := by rw [ev4, u]; decide
        rw [e4, if_neg (by decide), if_neg (by decide), if_neg (by decide), if_neg (by decide), if_pos rfl]
        have ej2 : jn c x y = if x = y then 1 else 0 := by rw [u]; rfl
        by_cases w : x = y
        · rw [if_pos (lg_eqi.mpr w)]
          exact A _ (by rw [ej2, if_pos w])
        · rw [if_neg (fun z => w (lg_eqi.mp z))]
          exact A _ (by rw [ej2, if_neg w])
      · have e4 : v4 = 20006 := by rw [ev4, u]; decide
        rw [e4, if_neg (by decide), if_neg (by decide), if_neg (by decide), if_neg (by decide), if_neg (by decide)]
        rw [u] at A
        rcases ux with ux | ux <;> rcases uy with uy | uy <;> rw [ux, uy] at A ⊢
        · rw [if_neg (by decide)]; exact A _ (by decide)
        · rw [if_neg (by decide)]; exact A _ (by decide)
        · rw [if_neg (by decide)]; exact A _ (by decide)
        · rw [if_pos (by decide)]; exact A _ (by decide)
theorem m_worked (hR : zRok s) {v : Nat → Int32} (hv : ∀ k, k < 7 → s.1 261 k = v k) {p a N : Nat} (hp : p < 13) (h249 : s.1 249 p = nI a) (h252 : s.1 252 p = nI N) (haN : a + N ≤ 400) {cs : List Int32} (hl : cs.length = N) (hrow : ∀ k, k < cs.length → s.1 246 (a + k) = mu (cs.getD k 0)) (hok : okC cs [] = true) {K : Int32 → zS → Prop} (hK : ∀ s', zE pilS s s' → K (evL v cs []) s') : zc l g (d + 2) M_X8_worked [.ref 164, .int (nI p)] s (zKi K) :=
  t_X8_worked (d := d + 1) hR (m_work_4 (d := d) hR hv hp h249 h252 haN hK cs 0 [] [] s (by omega) (fun k hk => by rw [Nat.add_zero]; exact hrow k hk) zE_r hok trivial (by decide) (fun k hk => absurd hk (Nat.not_lt_zero k)) rfl)
end MW
