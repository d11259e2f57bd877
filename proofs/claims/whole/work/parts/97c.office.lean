/-! ===== office: which clause holds first ===== -/
theorem sl_len {cs : List Int32} {a b : Nat} (h : b ≤ cs.length) : (sl cs a b).length = b - a := by
  unfold sl
  rw [List.length_take, List.length_drop]
  omega
theorem sl_get {cs : List Int32} {a b k : Nat} (hk : k < b - a) : (sl cs a b).getD k 0 = cs.getD (a + k) 0 := by
  unfold sl
  rw [List.getD_eq_getElem?_getD, List.getD_eq_getElem?_getD, List.getElem?_take_of_lt hk, List.getElem?_drop]
theorem map_mu {cs : List Int32} {k : Nat} (hk : k < cs.length) : (cs.map mu).getD k 0 = mu (cs.getD k 0) := by
  rw [List.getD_eq_getElem?_getD, List.getD_eq_getElem?_getD, List.getElem?_map, List.getElem?_eq_getElem hk]
  rfl
theorem getD_mem {α : Type} {cl : List α} {e : α} {i : Nat} (hi : i < cl.length) : cl.getD i e ∈ cl := by
  rw [List.getD_eq_getElem?_getD, List.getElem?_eq_getElem hi]
  exact List.getElem_mem hi
def fh (P : Nat → Bool) : Nat → Nat → Int32
  | 0, _ => -1
  | m + 1, i => if P i = true then nI i else fh P m (i + 1)
theorem fh_r (P : Nat → Bool) : ∀ m i, fh P m i = -1 ∨ ∃ j, i ≤ j ∧ j < i + m ∧ fh P m i = nI j := by
  intro m
  induction m with
  | zero => intro i; exact Or.inl rfl
  | succ m ih =>
    intro i
    unfold fh
    by_cases c : P i = true
    · rw [if_pos c]; exact Or.inr ⟨i, Nat.le_refl _, by omega, rfl⟩
    · rw [if_neg c]
      rcases ih (i + 1) with h | ⟨j, h1, h2, h3⟩
      · exact Or.inl h
      · exact Or.inr ⟨j, by omega, by omega, h3⟩
def hld (v : Nat → Int32) (q : rQ) (i : Nat) : Bool := decide (evL v (sl q.1 (q.2.2.getD i (0, 0, 0)).2.1 (q.2.2.getD i (0, 0, 0)).2.2) [] = 1)
section CF
variable {l : Launch} {g : zG} {d : Nat} {v : Nat → Int32} {q : rQ}
/-- one piece of the rules, worked out, class -/
theorem c_piece {s : zS} (hR : zRok s) {o : Nat} (ho : o = 79 ∨ o = 85) (hv : ∀ k, k < 7 → s.1 91 k = v k) (h4 : q.1.length ≤ 400) (hrow : ∀ i, i < q.1.length → s.1 (o + 1) i = q.1.getD i 0) {a b : Nat} (hab : a ≤ b) (hb : b ≤ q.1.length) (hok : okC (sl q.1 a b) [] = true) {K : Int32 → zS → Prop} (hK : ∀ s', zE (vaS o) s s' → K (evL v (sl q.1 a b) []) s') : zc l g (d + 3) M_X3_valueOf [.ref o, .int (nI a), .int (nI b), .ref 91] s (zKi K) :=
  c_value (d := d) hR ho hv (by omega) (by rw [sl_len hb]; omega) (fun k hk => by rw [sl_len hb] at hk; rw [sl_get hk]; exact hrow _ (by omega)) hok hK
theorem m_piece {s : zS} (hR : zRok s) (hv : ∀ k, k < 7 → s.1 261 k = v k) (h4 : q.1.length ≤ 400) (hrow : ∀ i, i < q.1.length → s.1 246 i = (q.1.map mu).getD i 0) {p a b : Nat} (hp : p < 13) (h249 : s.1 249 p = nI a) (h252 : s.1 252 p = nI (b - a)) (hab : a ≤ b) (hb : b ≤ q.1.length) (hok : okC (sl q.1 a b) [] = true) {K : Int32 → zS → Prop} (hK : ∀ s', zE pilS s s' → K (evL v (sl q.1 a b) []) s') : zc l g (d + 2) M_X8_worked [.ref 164, .int (nI p)] s (zKi K) :=
  m_worked (d := d) hR hv hp h249 h252 (by omega) (sl_len hb) (fun k hk => by rw [sl_len hb] at hk; rw [hrow _ (by omega), map_mu (by omega), sl_get hk]) hok hK
theorem c_first_2 {o : Nat} (ho : o = 79 ∨ o = 85) {sB : zS} (hR0 : zRok sB) (hv : ∀ k, k < 7 → sB.1 91 k = v k) (hw : wfQ q) (h4 : q.1.length ≤ 400) (hq : rqC o sB.1 q) {r : Int32} {K : Int32 → zS → Prop} (hK : ∀ s', zE (vaS o) sB s' → K r s') :
    ∀ m i s, i + m = q.2.2.length → zE (vaS o) sB s → fh (hld v q) m i = r → zt l g (d + 4) M_X3_firstHolding 2 [.ref o, .ref 91, .int (nI i)] [] s (zKi K) := by
  have h12 := hw.1
  intro m
  induction m with
  | zero =>
    intro i s hi hE hr
    have : i = q.2.2.length := by omega
    subst this
    refine t_X3_firstHolding_2 (d := d + 3) (zE_K hE hR0) ho ?_
    rw [hE.2 o 5 (by unfold vaS; omega), hq.2.2.1, if_pos (nI_le (Nat.le_refl _) (by omega))]
    have hr2 : (-1 : Int32) = r := hr
    rw [hr2]
    exact hK s hE
  | succ m ih =>
    intro i s hi hE hr
    have hi2 : i < q.2.2.length := by omega
    have hR := zE_K hE hR0
    have hvi : vp_in (nI i) 12 := vp_in_nI (by omega) (by decide)
    obtain ⟨w1, w2, w3⟩ := hw.2.2 _ (getD_mem (e := (0, 0, 0)) hi2)
    obtain ⟨-, q2, q3⟩ := hq.2.2.2.2 i hi2
    refine t_X3_firstHolding_2 (d := d + 3) hR ho ?_
    rw [hE.2 o 5 (by unfold vaS; omega), hq.2.2.1, if_neg (nI_ge (by omega) (by omega)), nI_clamp (by omega), hE.2 (o + 3) i (by unfold vaS; omega), hE.2 (o + 4) i (by unfold vaS; omega), q2, q3, ← nI_succ]
    refine ⟨hvi, hvi, ?_⟩
    refine c_piece (d := d) (v := v) hR ho (fun k hk => by rw [hE.2 91 k (by unfold vaS; omega)]; exact hv k hk) h4 (fun k hk => by rw [hE.2 (o + 1) k (by unfold vaS; omega)]; exact hq.1 k hk) w1 w2 w3 (fun s' hE' => ⟨zE_R hE', ?_⟩)
    unfold fh at hr
    by_cases c : evL v (sl q.1 (q.2.2.getD i (0, 0, 0)).2.1 (q.2.2.getD i (0, 0, 0)).2.2) [] = 1
    · rw [if_pos c]
      rw [if_pos (show hld v q i = true from decide_eq_true c)] at hr
      rw [hr]
      exact hK s' (zE_t hE hE')
    · rw [if_neg c]
      rw [if_neg (by unfold hld; rw [decide_eq_false c]; exact Bool.false_ne_true)] at hr
      exact ih (i + 1) s' (by omega) (zE_t hE hE') hr
theorem c_first {o : Nat} (ho : o = 79 ∨ o = 85) {s : zS} (hR : zRok s) (hv : ∀ k, k < 7 → s.1 91 k = v k) (hw : wfQ q) (h4 : q.1.length ≤ 400) (hq : rqC o s.1 q) {K : Int32 → zS → Prop} (hK : ∀ s', zE (vaS o) s s' → K (fh (hld v q) q.2.2.length 0) s') : zc l g (d + 4) M_X3_firstHolding [.ref o, .ref 91] s (zKi K) :=
  t_X3_firstHolding (d := d + 3) hR ho (c_first_2 (d := d) ho hR hv hw h4 hq hK q.2.2.length 0 s (Nat.zero_add _) zE_r rfl)
theorem m_first {p0 p3 : Int32} {sB : zS} (hR0 : zRok sB) (hv : ∀ k, k < 7 → sB.1 261 k = v k) (hw : wfQ q) (h4 : q.1.length ≤ 400) (hq : rqM sB.1 q) {K : Int32 → zS → Prop} (hK : ∀ s', zE pilS sB s' → zt l g (d + 3) M_X8_office 111 [.ref 164, .int p0, zJ, zJ, .int p3, .int (fh (hld v q) q.2.2.length 0), .int (-1), zJ, zJ, zJ] [] s' (zKi K)) :
    ∀ i m s, i + m = q.2.2.length → zE pilS sB s → zt l g (d + 3) M_X8_office 111 [.ref 164, .int p0, zJ, zJ, .int p3, .int (fh (hld v q) m i), .int (nI i - 1), zJ, zJ, zJ] [] s (zKi K) := by
  have h12 := hw.1
  intro i
  induction i with
  | zero =>
    intro m s hi hE
    have : m = q.2.2.length := by omega
    rw [this]
    exact hK s hE
  | succ i ih =>
    intro m s hi hE
    have hi2 : i < q.2.2.length := by omega
    have hR := zE_K hE hR0
    obtain ⟨w1, w2, w3⟩ := hw.2.2 _ (getD_mem (e := (0, 0, 0)) hi2)
    obtain ⟨-, q2, q3⟩ := hq.2.2.2 i hi2
    have e1 : nI (i + 1) - 1 = nI i := by
      have := nI_subN (a := 1) (b := i) (by omega)
      rwa [show 1 + i = i + 1 by omega] at this
    refine t_X8_office_111 (d := d + 2) hR ?_
    rw [e1, if_neg (by rw [ti_lt, nI_toInt (by omega), til.1]; omega)]
    refine m_piece (d := d) (v := v) (p := i) hR (fun k hk => by rw [hE.2 261 k (by unfold pilS; omega)]; exact hv k hk) h4 (fun k hk => by rw [hE.2 246 k (by unfold pilS; omega)]; exact hq.1 k hk) (by omega) (by rw [hE.2 249 i (by unfold pilS; omega)]; exact q2) (by rw [hE.2 252 i (by unfold pilS; omega)]; exact q3) w1 w2 w3 (fun s' hE' => ⟨zE_R hE', ?_⟩)
    have := ih (m + 1) s' (by omega) (zE_t hE hE')
    unfold fh at this
    by_cases c : evL v (sl q.1 (q.2.2.getD i (0, 0, 0)).2.1 (q.2.2.getD i (0, 0, 0)).2.2) [] = 1
    · rw [if_pos c]
      rw [if_pos (show hld v q i = true from decide_eq_true c)] at this
      exact this
    · rw [if_neg c]
      rw [if_neg (by unfold hld; rw [decide_eq_false c]; exact Bool.false_ne_true)] at this
      exact this
end CF
/-! ===== office: how hastily ===== -/
def hsB (I : zM2) (kind x : Int32) : Nat → Nat → Bool
  | 0, _ => decide (¬ x = 0)
  | m + 1, t => if (x >>> (nI t &&& 31)) &&& 1 = 1 then (if I 172 t = kind then false else hsB I kind x m (t + 1)) else hsB I kind x m (t + 1)
section HS
variable {l : Launch} {g : zG} {d : Nat} {s : zS} {kind x : Int32}
theorem c_hasty_9 (hC : Core s) {K : Bool → zS → Prop} : ∀ m t, t + m = nT s.1 → K (hsB s.1 kind x m t) s → zt l g (d + 1) M_X7_isHasty 9 [.ref 64, zJ, .int kind, .int x, .int (nI t)] [] s (zKz K) := by
  obtain ⟨e5, -, n12⟩ := Core_c5 hC
  intro m
  induction m with
  | zero =>
    intro t ht h
    refine t_X7_isHasty_9 hC.1 ?_
    rw [e5, if_pos (nI_le (by omega) (by omega))]
    unfold hsB at h
    by_cases c : x = 0
    · rw [if_pos c]; rwa [decide_eq_false (fun w => w c)] at h
    · rw [if_neg c]; rwa [decide_eq_true c] at h
  | succ m ih =>
    intro t ht h
    have hk := (hC.2.2.2.1.2.2.1 t (by omega)).1
    refine t_X7_isHasty_9 hC.1 ?_
    rw [e5, if_neg (nI_ge (by omega) (by omega)), nI_clamp (by omega), ← nI_succ, hk]
    unfold hsB at h
    by_cases c1 : (x >>> (nI t &&& 31)) &&& 1 = 1
    · rw [if_pos c1] at h ⊢
      refine ⟨vp_in_nI (by omega) (by decide), ?_⟩
      by_cases c2 : s.1 172 t = kind
      · rw [if_pos c2] at h ⊢; exact h
      · rw [if_neg c2] at h ⊢; exact ih (t + 1) (by omega) h
    · rw [if_neg c1] at h ⊢; exact ih (t + 1) (by omega) h
theorem m_hasty_1 (hC : Core s) {K : Int32 → zS → Prop} (h : K 0 s) : ∀ m t, t + m = nT s.1 → zt l g (d + 1) M_X8_office 189 [.ref 164, zJ, zJ, zJ, zJ, zJ, .int kind, .int x, .int 1, .int (nI t)] [] s (zKi K) := by
  obtain ⟨-, e5, n12⟩ := Core_c5 hC
  intro m
  induction m with
  | zero =>
    intro t ht
    refine t_X8_office_189 hC.1 ?_
    rw [e5, if_pos (nI_le (by omega) (by omega))]
    by_cases c : x = 0
    · rw [if_pos c]; exact h
    · rw [if_neg c, if_neg (by decide)]; exact h
  | succ m ih =>
    intro t ht
    refine t_X8_office_189 hC.1 ?_
    rw [e5, if_neg (nI_ge (by omega) (by omega)), if_neg (by decide), ← nI_succ]
    exact ih (t + 1) (by omega)
theorem m_hasty_0 (hC : Core s) {K : Int32 → zS → Prop} : ∀ m t, t + m = nT s.1 → K (zb (hsB s.1 kind x m t)) s → zt l g (d + 1) M_X8_office 189 [.ref 164, zJ, zJ, zJ, zJ, zJ, .int kind, .int x, .int 0, .int (nI t)] [] s (zKi K) := by
  obtain ⟨-, e5, n12⟩ := Core_c5 hC
  intro m
  induction m with
  | zero =>
    intro t ht h
    refine t_X8_office_189 hC.1 ?_
    rw [e5, if_pos (nI_le (by omega) (by omega))]
    unfold hsB at h
    by_cases c : x = 0
    · rw [if_pos c]; rwa [decide_eq_false (fun w => w c)] at h
    · rw [if_neg c, if_pos rfl]; rwa [decide_eq_true c] at h
  | succ m ih =>
    intro t ht h
    refine t_X8_office_189 hC.1 ?_
    rw [e5, if_neg (nI_ge (by omega) (by omega)), if_pos rfl, nI_clamp (by omega), ← nI_succ]
    unfold hsB at h
    by_cases c1 : (x >>> (nI t &&& 31)) &&& 1 = 1
    · rw [if_pos c1] at h ⊢
      refine ⟨vp_in_nI (by omega) (by decide), ?_⟩
      by_cases c2 : s.1 172 t = kind
      · rw [if_pos c2] at h ⊢
        exact m_hasty_1 hC h m (t + 1) (by omega)
      · rw [if_neg c2] at h ⊢; exact ih (t + 1) (by omega) h
    · rw [if_neg c1] at h ⊢; exact ih (t + 1) (by omega) h
theorem hsB_c {I I' : zM2} (h : ∀ t, I' 172 t = I 172 t) : ∀ m t, hsB I' kind x m t = hsB I kind x m t := by
  intro m
  induction m with
  | zero => intro t; rfl
  | succ m ih => intro t; unfold hsB; rw [h, ih]
end HS
/-! ===== office: both sides ===== -/
def vlO (I : zM2) (k : Nat) (x y : Int32) : Nat → Int32 := fun i => if i = 0 then I (183 + k) 7 else if i = 1 then I (183 + k) 8 else if i = 2 then x else if i = 3 then y else if i = 4 then I (183 + k) 1 else if i = 5 then I (183 + k) 3 else I (183 + k) 4
def gwV (a b x y : Int32) : Nat → Int32 := fun i => if i = 0 then a else if i = 1 then b else if i = 2 then x else if i = 3 then y else 0
def ofS : Nat → Nat → Prop := fun o j => fS o j ∨ o = 84 ∨ o = 90 ∨ o = 91 ∨ o = 260 ∨ o = 261
theorem okS_o : okS ofS := ⟨fun _ _ h => Or.inl h, fun o j h => by unfold ofS fS at h; unfold gSc; omega⟩
theorem Core_q {s s' : zS} (h : zE (fun o _ => o = 84 ∨ o = 90 ∨ o = 91 ∨ o = 260 ∨ o = 261) s s') (hC : Core s) : Core s' :=
  Core_k h (fun o j w => by omega) hC (RelF_k hC.2.2.2.2.2.1 (eqM_g (fun o j w => by unfold gSc; omega) h) (h.2 _ _ (by omega)) (fun q hq => ⟨h.2 _ _ (by omega), h.2 _ _ (by omega)⟩) hC.2.2.2.2.2.2)
theorem k7 {P : Nat → Prop} (h0 : P 0) (h1 : P 1) (h2 : P 2) (h3 : P 3) (h4 : P 4) (h5 : P 5) (h6 : P 6) : ∀ k, k < 7 → P k := by
  intro k hk
  have : k = 0 ∨ k = 1 ∨ k = 2 ∨ k = 3 ∨ k = 4 ∨ k = 5 ∨ k = 6 := by omega
  rcases this with e | e | e | e | e | e | e <;> rw [e] <;> assumption
section LY
variable {l : Launch} {g : zG} {d : Nat} {s : zS} {a b x y : Int32}
theorem m_lays_3 {K : zS → Prop} {sB : zS} (hR0 : zRok sB) (hK : ∀ s', zE (fun o _ => o = 261) sB s' → (∀ k, k < 7 → s'.1 261 k = gwV a b x y k) → K s') :
    ∀ m i s, i + m = 7 → zE (fun o _ => o = 261) sB s → (∀ k, k < i → s.1 261 k = 0) → zt l g d M_X8_lays 3 [.ref 164, .int a, .int b, .int x, .int y, .int (nI i)] [] s (zKv K) := by
  intro m
  induction m with
  | zero =>
    intro i s hi hE h
    have : i = 7 := by omega
    subst this
    refine t_X8_lays_3 (zE_K hE hR0) ?_
    rw [if_pos (by decide)]
    refine hK _ (zE_i (zE_i (zE_i (zE_i hE rfl) rfl) rfl) rfl) (k7 ?_ ?_ ?_ ?_ ?_ ?_ ?_)
    · rw [zI_k (by decide), zI_k (by decide), zI_k (by decide), zI_eq]; rfl
    · rw [zI_k (by decide), zI_k (by decide), zI_eq]; rfl
    · rw [zI_k (by decide), zI_eq]; rfl
    · rw [zI_eq]; rfl
    · rw [zI_k (by decide), zI_k (by decide), zI_k (by decide), zI_k (by decide)]; exact h 4 (by decide)
    · rw [zI_k (by decide), zI_k (by decide), zI_k (by decide), zI_k (by decide)]; exact h 5 (by decide)
    · rw [zI_k (by decide), zI_k (by decide), zI_k (by decide), zI_k (by decide)]; exact h 6 (by decide)
  | succ m ih =>
    intro i s hi hE h
    refine t_X8_lays_3 (zE_K hE hR0) ?_
    rw [if_neg (lit_ge (c := 7) (b := 7) rfl (by omega) (by decide)), nI_clamp (by omega), ← nI_succ]
    refine ⟨vp_in_nI (by omega) (by decide), ih (i + 1) _ (by omega) (zE_i hE rfl) (fun k hk => ?_)⟩
    by_cases e : k = i
    · rw [e, zI_eq]
    · rw [zI_k e]; exact h k (by omega)
theorem m_lays (hR : zRok s) {K : zS → Prop} (hK : ∀ s', zE (fun o _ => o = 261) s s' → (∀ k, k < 7 → s'.1 261 k = gwV a b x y k) → K s') : zc l g d M_X8_lays [.ref 164, .int a, .int b, .int x, .int y] s (zKv K) :=
  t_X8_lays hR (m_lays_3 hR hK 7 0 s (by omega) zE_r (fun k hk => absurd hk (Nat.not_lt_zero k)))
theorem c_values (hR : zRok s) {K : zS → Prop} (hK : ∀ s', zE (fun o _ => o = 91) s s' → (∀ k, k < 7 → s'.1 91 k = gwV a b x y k) → K s') : zc l g d M_X7_setValues [.ref 64, .int a, .int b, .int x, .int y] s (zKv K) := by
  refine t_X7_setValues hR (hK _ (zE_i (zE_i (zE_i (zE_i (zE_i (zE_i (zE_i0 (S := fun o _ => o = 91) rfl) rfl) rfl) rfl) rfl) rfl) rfl) (k7 ?_ ?_ ?_ ?_ ?_ ?_ ?_))
  · rw [zI_k (by decide), zI_k (by decide), zI_k (by decide), zI_k (by decide), zI_k (by decide), zI_k (by decide), zI_eq]; rfl
  · rw [zI_k (by decide), zI_k (by decide), zI_k (by decide), zI_k (by decide), zI_k (by decide), zI_eq]; rfl
  · rw [zI_k (by decide), zI_k (by decide), zI_k (by decide), zI_k (by decide), zI_eq]; rfl
  · rw [zI_k (by decide), zI_k (by decide), zI_k (by decide), zI_eq]; rfl
  · rw [zI_k (by decide), zI_k (by decide), zI_eq]; rfl
  · rw [zI_k (by decide), zI_eq]; rfl
  · rw [zI_eq]; rfl
/-- three more values behind the four -/
theorem v3 {o : Nat} {v : Nat → Int32} {p q r : Int32} (h : ∀ k, k < 7 → s.1 o k = v k) {w : Nat → Int32} (e : ∀ k, k < 4 → w k = v k) (e4 : w 4 = p) (e5 : w 5 = q) (e6 : w 6 = r) : ∀ k, k < 7 → (zI (zI (zI s o 4 p) o 5 q) o 6 r).1 o k = w k := by
  refine k7 ?_ ?_ ?_ ?_ ?_ ?_ ?_
  · rw [zI_k (by decide), zI_k (by decide), zI_k (by decide), h 0 (by decide), e 0 (by decide)]
  · rw [zI_k (by decide), zI_k (by decide), zI_k (by decide), h 1 (by decide), e 1 (by decide)]
  · rw [zI_k (by decide), zI_k (by decide), zI_k (by decide), h 2 (by decide), e 2 (by decide)]
  · rw [zI_k (by decide), zI_k (by decide), zI_k (by decide), h 3 (by decide), e 3 (by decide)]
  · rw [zI_k (by decide), zI_k (by decide), zI_eq, e4]
  · rw [zI_k (by decide), zI_eq, e5]
  · rw [zI_eq, e6]
end LY
