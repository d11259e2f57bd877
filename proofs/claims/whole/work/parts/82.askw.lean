/-! ===== ask: the best minute of a telling, and what is kept of it ===== -/
def askL (P : Nat → Nat) : Nat → Nat → Nat → Nat → Nat × Nat
  | 0, _, c, b => (c, b)
  | m + 1, n, c, b => if c < P n then askL P m (n + 1) (P n) n else askL P m (n + 1) c b
theorem askL_ge (P : Nat → Nat) : ∀ m n c b, c ≤ (askL P m n c b).1 := by
  intro m
  induction m with
  | zero => intro n c b; exact Nat.le_refl _
  | succ m ih =>
    intro n c b
    unfold askL
    by_cases w : c < P n
    · rw [if_pos w]; have := ih (n + 1) (P n) n; omega
    · rw [if_neg w]; exact ih (n + 1) c b
theorem askL_0 {P : Nat → Nat} (h : ∀ n, P n = 0) : ∀ m n b, askL P m n 0 b = (0, b) := by
  intro m
  induction m with
  | zero => intro n b; rfl
  | succ m ih =>
    intro n b
    unfold askL
    rw [if_neg (by rw [h]; omega)]
    exact ih (n + 1) b
/-- the running best over tellings -/
def refL (P : Nat → Nat) (k : Nat) : Nat → Nat → Int32 × Int32 × Nat → Int32 × Int32 × Nat
  | 0, _, c => c
  | m + 1, n, c => if c.2.2 < P n then refL P k m (n + 1) (nI k, nI n, P n) else refL P k m (n + 1) c
theorem refL_2 {P : Nat → Nat} {k : Nat} : ∀ m n c b, refL P k m n (nI k, nI b, c) = (nI k, nI (askL P m n c b).2, (askL P m n c b).1) := by
  intro m
  induction m with
  | zero => intro n c b; rfl
  | succ m ih =>
    intro n c b
    unfold refL askL
    by_cases w : c < P n
    · rw [if_pos w, if_pos w]; exact ih _ _ _
    · rw [if_neg w, if_neg w]; exact ih _ _ _
theorem refL_1 {P : Nat → Nat} {k : Nat} : ∀ m n c b c0, c ≤ c0.2.2 → refL P k m n c0 = if c0.2.2 < (askL P m n c b).1 then (nI k, nI (askL P m n c b).2, (askL P m n c b).1) else c0 := by
  intro m
  induction m with
  | zero =>
    intro n c b c0 h
    rw [if_neg (by show ¬ c0.2.2 < c; omega)]
    rfl
  | succ m ih =>
    intro n c b c0 h
    unfold refL askL
    by_cases w : c0.2.2 < P n
    · have w3 : c < P n := by omega
      rw [if_pos w, if_pos w3, refL_2]
      have := askL_ge P m (n + 1) (P n) n
      rw [if_pos (by omega)]
    · rw [if_neg w]
      by_cases w2 : c < P n
      · rw [if_pos w2]; exact ih (n + 1) (P n) n c0 (by omega)
      · rw [if_neg w2]; exact ih (n + 1) c b c0 h
/-- couples by minutes, of telling k -/
def parK (I : zM2) (k : Nat) (n : Nat) : Nat := parN I (I (183 + k) 0).toNatClampNeg (fitB I k) (nI n)
def askF (I : zM2) (k : Nat) : Nat × Nat := askL (parK I k) ((I (183 + k) 2).toNatClampNeg + 1 - (I (183 + k) 1).toNatClampNeg) (I (183 + k) 1).toNatClampNeg 0 (I (183 + k) 1).toNatClampNeg
theorem fitM_c {I I' : zM2} (h : eqM I I') {k : Nat} (hk : k < 60) : ∀ t, fitM I' k t = fitM I k t := by
  intro t
  induction t with
  | zero => rfl
  | succ t ih => unfold fitM; rw [ih, neF_c h (by omega) (by omega), neF_c h (by omega) (by omega)]
theorem fitB_c {I I' : zM2} (h : eqM I I') {k : Nat} (hk : k < 60) : fitB I' k = fitB I k := by
  unfold fitB nT
  rw [h 164 19 (by simp [mS]), fitM_c h hk]
theorem parN_c {I I' : zM2} (h : eqM I I') (i f : Nat) (m : Int32) : parN I' i f m = parN I i f m := by
  have e70 : I' 170 i = I 170 i := h 170 i (by simp [mS])
  have e71 : I' 171 i = I 171 i := h 171 i (by simp [mS])
  unfold parN nT
  rw [h 164 19 (by simp [mS])]
  have e1 : (fun t => shF I' t i m) = (fun t => shF I t i m) := funext fun t => shF_c (eqM_same h t) e70 e71 m
  have e2 : wxF I' i m = wxF I i m := by
    funext u t
    unfold wxF
    rw [wyF_c (eqM_same h u) e70 e71, wyF_c (eqM_same h t) e70 e71, h 164 25 (by simp [mS])]
  rw [e1, e2]
theorem parK_c {I I' : zM2} (h : eqM I I') {k : Nat} (hk : k < 60) : parK I' k = parK I k := by
  funext n
  unfold parK
  rw [h (183 + k) 0 (by unfold mS; omega), fitB_c h hk, parN_c h]
theorem askF_c {I I' : zM2} (h : eqM I I') {k : Nat} (hk : k < 60) : askF I' k = askF I k := by
  unfold askF
  rw [h (183 + k) 1 (by unfold mS; omega), h (183 + k) 2 (by unfold mS; omega), parK_c h hk]
/-- what tellings keep of their best minute -/
def RelA (I : zM2) : Prop := ∀ k, k < nK I → 0 ≤ (I (104 + k) 13).toInt ∧ (I (104 + k) 13).toInt ≤ (I 64 10).toInt ∧ (I (104 + k) 13 = I 64 10 → I (104 + k) 11 = nI (askF I k).1 ∧ I (104 + k) 12 = nI (askF I k).2)
theorem RelA_k {I I' : zM2} (h60 : nK I ≤ 60) (hM : eqM I I') (h10 : I' 64 10 = I 64 10) (ho : ∀ q, q < nK I → I' (104 + q) 11 = I (104 + q) 11 ∧ I' (104 + q) 12 = I (104 + q) 12 ∧ I' (104 + q) 13 = I (104 + q) 13) (hA : RelA I) : RelA I' := by
  have en : nK I' = nK I := by unfold nK; rw [hM 164 24 (by simp [mS])]
  intro q hq
  rw [en] at hq
  rw [h10, askF_c hM (by omega), (ho q hq).1, (ho q hq).2.1, (ho q hq).2.2]
  exact hA q hq
theorem RelA_f {s s' : zS} (h : zE fS s s') (hC : Core s) (hA : RelA s.1) : RelA s'.1 :=
  RelA_k (Core_c7 hC).2.2 (eqM_f h) (h.2 _ _ (by unfold fS; omega)) (fun q hq => by have := (Core_c7 hC).2.2; exact ⟨h.2 _ _ (by unfold fS; omega), h.2 _ _ (by unfold fS; omega), h.2 _ _ (by unfold fS; omega)⟩) hA
theorem askL_b {P : Nat → Nat} {B C : Nat} (hP : ∀ n, P n ≤ B) : ∀ m n c b, c ≤ B → b ≤ C → n + m ≤ C + 1 → (askL P m n c b).1 ≤ B ∧ (askL P m n c b).2 ≤ C := by
  intro m
  induction m with
  | zero => intro n c b h1 h2 _; exact ⟨h1, h2⟩
  | succ m ih =>
    intro n c b h1 h2 h3
    unfold askL
    by_cases w : c < P n
    · rw [if_pos w]; exact ih _ _ _ (hP n) (by omega) (by omega)
    · rw [if_neg w]; exact ih _ _ _ h1 h2 (by omega)
theorem parK_le {I : zM2} (hT : nT I ≤ 12) (k n : Nat) : parK I k n ≤ 288 := rr_le hT
