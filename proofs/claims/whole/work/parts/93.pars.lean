/-! ===== rules: what is read, as a function of the tokens ===== -/
abbrev pR : Type := Bool × Nat × List Int32
def isVal (c : Int32) : Bool := decide (0 ≤ c) && (decide (c ≤ 9999) || (decide (10011 ≤ c) && decide (c < 10018)))
def isOp (c : Int32) : Bool := decide (c = 20042) || decide (c = 20043) || decide (c = 20045)
def isCp (c : Int32) : Bool := decide (c = 20060) || decide (c = 20061)
/-- codes that can be worked out on a pile of 24; the pile's kinds: true for what is 0 or 1 -/
def okC : List Int32 → List Bool → Bool
  | [], ts => ts.length == 1
  | c :: cs, ts => if isVal c = true then decide (ts.length < 24) && okC cs (false :: ts) else match ts with
    | b :: a :: r => if isOp c = true then okC cs (false :: r) else if isCp c = true then okC cs (true :: r) else decide (c = 10003) && (a && (b && okC cs (true :: r)))
    | _ => false
def seg (cs : List Int32) (m : Nat) (ty : Bool) : Prop := ∀ rest ts, ts.length + m ≤ 24 → okC rest (ty :: ts) = true → okC (cs ++ rest) ts = true
def pFac (t : Nat → Int32) (S : Option (Nat → pR)) (j : Nat) : pR :=
  if isVal (t j) = true then (true, j + 1, [t j]) else if t j = 20040 then (match S with
    | none => (false, j, [])
    | some S => if (S (j + 1)).1 = true then (if t (S (j + 1)).2.1 = 20041 then (true, (S (j + 1)).2.1 + 1, (S (j + 1)).2.2) else (false, (S (j + 1)).2.1, [])) else (false, (S (j + 1)).2.1, [])) else (false, j, [])
def lp (t : Nat → Int32) (ops : Int32 → Bool) (F : Nat → pR) : Nat → Nat → List Int32 → pR
  | 0, j, cs => (true, j, cs)
  | m + 1, j, cs => if ops (t j) = true then (if (F (j + 1)).1 = true then lp t ops F m (F (j + 1)).2.1 (cs ++ (F (j + 1)).2.2 ++ [t j]) else (false, (F (j + 1)).2.1, [])) else (true, j, cs)
def chn (t : Nat → Int32) (ops : Int32 → Bool) (F : Nat → pR) (j : Nat) : pR := if (F j).1 = true then lp t ops F 401 (F j).2.1 (F j).2.2 else (false, (F j).2.1, [])
def opM (c : Int32) : Bool := decide (c = 20042)
def opA (c : Int32) : Bool := decide (c = 20043) || decide (c = 20045)
def opN (c : Int32) : Bool := decide (c = 10003)
def pProd (t : Nat → Int32) (S : Option (Nat → pR)) : Nat → pR := chn t opM (pFac t S)
def pSum (t : Nat → Int32) (S : Option (Nat → pR)) : Nat → pR := chn t opA (pProd t S)
def pSub (t : Nat → Int32) : Nat → Option (Nat → pR)
  | 0 => none
  | k + 1 => some (pSum t (pSub t k))
def pSumD (t : Nat → Int32) (k : Nat) : Nat → pR := pSum t (pSub t k)
def pCmp (t : Nat → Int32) (j : Nat) : pR :=
  if (pSumD t 8 j).1 = true then (if isCp (t (pSumD t 8 j).2.1) = true then (if (pSumD t 8 ((pSumD t 8 j).2.1 + 1)).1 = true then (true, (pSumD t 8 ((pSumD t 8 j).2.1 + 1)).2.1, (pSumD t 8 j).2.2 ++ (pSumD t 8 ((pSumD t 8 j).2.1 + 1)).2.2 ++ [t (pSumD t 8 j).2.1]) else (false, (pSumD t 8 ((pSumD t 8 j).2.1 + 1)).2.1, [])) else (false, (pSumD t 8 j).2.1, [])) else (false, (pSumD t 8 j).2.1, [])
def pCond (t : Nat → Int32) : Nat → pR := chn t opN (pCmp t)
/-- what a reading keeps: it ends not ahead of where it began, at T at most; what it gave is as long as it at most -/
def gdP (T : Nat) (m : Nat) (ty : Bool) (F : Nat → pR) : Prop := ∀ j, j ≤ T → j ≤ (F j).2.1 ∧ (F j).2.1 ≤ T ∧ ((F j).1 = true → j < (F j).2.1 ∧ (F j).2.2.length + j ≤ (F j).2.1 ∧ seg (F j).2.2 m ty)
theorem ft {P : Prop} (h : false = true) : P := by cases h
def pPar (t : Nat → Int32) (S : Nat → pR) (j : Nat) : pR := if (S (j + 1)).1 = true then (if t (S (j + 1)).2.1 = 20041 then (true, (S (j + 1)).2.1 + 1, (S (j + 1)).2.2) else (false, (S (j + 1)).2.1, [])) else (false, (S (j + 1)).2.1, [])
theorem pFac_p {t : Nat → Int32} {S : Nat → pR} {j : Nat} (h : t j = 20040) : pFac t (some S) j = pPar t S j := by
  unfold pFac
  rw [if_neg (by rw [h]; decide), if_pos h]
  rfl
theorem pFac_0 {t : Nat → Int32} {j : Nat} (h : t j = 20040) : pFac t none j = (false, j, []) := by
  unfold pFac
  rw [if_neg (by rw [h]; decide), if_pos h]
theorem pFac_v {t : Nat → Int32} {S : Option (Nat → pR)} {j : Nat} (h : isVal (t j) = true) : pFac t S j = (true, j + 1, [t j]) := by
  unfold pFac
  rw [if_pos h]
theorem pFac_n {t : Nat → Int32} {S : Option (Nat → pR)} {j : Nat} (h : ¬ isVal (t j) = true) (h2 : ¬ t j = 20040) : pFac t S j = (false, j, []) := by
  unfold pFac
  rw [if_neg h, if_neg h2]
theorem seg_v {c : Int32} {m : Nat} (h : isVal c = true) (hm : 1 ≤ m) : seg [c] m false := by
  intro rest ts hl ho
  show okC (c :: rest) ts = true
  unfold okC
  rw [if_pos h, ho, decide_eq_true (by omega)]
  rfl
theorem seg_m {cs : List Int32} {m m' : Nat} {ty : Bool} (h : seg cs m ty) (hm : m ≤ m') : seg cs m' ty := fun rest ts hl ho => h rest ts (by omega) ho
/-- an operation behind two -/
def opT (ty ty' : Bool) (c : Int32) : Prop := ∀ rest ts, okC rest (ty' :: ts) = true → okC (c :: rest) (ty :: ty :: ts) = true
theorem seg_2 {a b : List Int32} {c : Int32} {m m' : Nat} {ty ty' : Bool} (ha : seg a m' ty) (hb : seg b m ty) (hc : opT ty ty' c) (hm : m + 1 ≤ m') : seg (a ++ b ++ [c]) m' ty' := by
  intro rest ts hl ho
  rw [List.append_assoc, List.append_assoc]
  refine ha _ ts hl ?_
  refine hb _ (ty :: ts) (by simp; omega) ?_
  exact hc rest ts ho
theorem opT_op {c : Int32} (h : isOp c = true) : opT false false c := by
  intro rest ts ho
  unfold isOp at h
  simp at h
  have hv : isVal c = false := by rcases h with (h | h) | h <;> subst h <;> decide
  have h2 : isOp c = true := by unfold isOp; simp; exact h
  unfold okC
  rw [hv, if_neg (by decide)]
  show (if isOp c = true then okC rest (false :: ts) else _) = true
  rw [if_pos h2]; exact ho
theorem opT_cp {c : Int32} (h : isCp c = true) : opT false true c := by
  intro rest ts ho
  have h1 := h
  unfold isCp at h1
  simp at h1
  have hv : isVal c = false := by rcases h1 with h1 | h1 <;> subst h1 <;> decide
  have h2 : isOp c = false := by rcases h1 with h1 | h1 <;> subst h1 <;> decide
  unfold okC
  rw [hv, if_neg (by decide)]
  show (if isOp c = true then _ else if isCp c = true then okC rest (true :: ts) else _) = true
  rw [h2, if_neg (by decide), if_pos h]; exact ho
theorem opT_an {c : Int32} (h : c = 10003) : opT true true c := by
  intro rest ts ho
  subst h
  show (if isVal 10003 = true then _ else if isOp 10003 = true then _ else if isCp 10003 = true then _ else decide ((10003 : Int32) = 10003) && (true && (true && okC rest (true :: ts)))) = true
  rw [if_neg (by decide), if_neg (by decide), if_neg (by decide), ho]
  rfl
section GD
variable {t : Nat → Int32} {T : Nat}
theorem gd_lp {ops : Int32 → Bool} {F : Nat → pR} {m : Nat} {ty : Bool} (hT : ops (t T) = false) (ho : ∀ c, ops c = true → opT ty ty c) (hF : gdP T m ty F) (j0 : Nat) :
    ∀ r j cs, j ≤ T → j0 < j → cs.length + j0 ≤ j → seg cs (m + 1) ty → j ≤ (lp t ops F r j cs).2.1 ∧ (lp t ops F r j cs).2.1 ≤ T ∧ ((lp t ops F r j cs).1 = true → (lp t ops F r j cs).2.2.length + j0 ≤ (lp t ops F r j cs).2.1 ∧ seg (lp t ops F r j cs).2.2 (m + 1) ty) := by
  intro r
  induction r with
  | zero => intro j cs h1 _ h2 h3; exact ⟨Nat.le_refl _, h1, fun _ => ⟨h2, h3⟩⟩
  | succ r ih =>
    intro j cs h1 h0 h2 h3
    unfold lp
    by_cases c : ops (t j) = true
    · rw [if_pos c]
      have hj : j < T := by
        by_cases e : j = T
        · rw [e, hT] at c; exact absurd c (by decide)
        · omega
      obtain ⟨f1, f2, f3⟩ := hF (j + 1) (by omega)
      by_cases c2 : (F (j + 1)).1 = true
      · rw [if_pos c2]
        obtain ⟨g1, g2, g3⟩ := f3 c2
        have := ih (F (j + 1)).2.1 (cs ++ (F (j + 1)).2.2 ++ [t j]) f2 (by omega) (by simp; omega) (seg_2 h3 g3 (ho _ c) (Nat.le_refl _))
        exact ⟨by omega, this.2.1, this.2.2⟩
      · rw [if_neg c2]
        exact ⟨by show j ≤ (F (j + 1)).2.1; omega, f2, fun w => ft w⟩
    · rw [if_neg c]
      exact ⟨Nat.le_refl _, h1, fun _ => ⟨h2, h3⟩⟩
theorem gd_ch {ops : Int32 → Bool} {F : Nat → pR} {m : Nat} {ty : Bool} (hT : ops (t T) = false) (ho : ∀ c, ops c = true → opT ty ty c) (hF : gdP T m ty F) : gdP T (m + 1) ty (chn t ops F) := by
  intro j hj
  obtain ⟨f1, f2, f3⟩ := hF j hj
  unfold chn
  by_cases c : (F j).1 = true
  · rw [if_pos c]
    obtain ⟨g1, g2, g3⟩ := f3 c
    have := gd_lp hT ho hF j 401 (F j).2.1 (F j).2.2 f2 g1 g2 (seg_m g3 (by omega))
    exact ⟨by omega, this.2.1, fun w => ⟨by omega, this.2.2 w⟩⟩
  · rw [if_neg c]
    exact ⟨f1, f2, fun w => ft w⟩
theorem gd_fac {S : Option (Nat → pR)} {m : Nat} (hT : t T = 30000) (hm : 1 ≤ m) (hS : ∀ S', S = some S' → gdP T m false S') : gdP T m false (pFac t S) := by
  intro j hj
  by_cases c : isVal (t j) = true
  · rw [pFac_v c]
    have : j < T := by
      by_cases e : j = T
      · rw [e, hT] at c; exact absurd c (by decide)
      · omega
    exact ⟨by show j ≤ j + 1; omega, this, fun _ => ⟨by show j < j + 1; omega, by show 1 + j ≤ j + 1; omega, seg_v c hm⟩⟩
  by_cases c2 : t j = 20040
  rotate_left
  · rw [pFac_n c c2]; exact ⟨Nat.le_refl _, hj, fun w => ft w⟩
  have hjT : j < T := by
    by_cases e : j = T
    · rw [e, hT] at c2; exact absurd c2 (by decide)
    · omega
  cases S with
  | none => rw [pFac_0 c2]; exact ⟨Nat.le_refl _, hj, fun w => ft w⟩
  | some S =>
    obtain ⟨f1, f2, f3⟩ := hS S rfl (j + 1) (by omega)
    rw [pFac_p c2]
    unfold pPar
    by_cases c3 : (S (j + 1)).1 = true
    · rw [if_pos c3]
      obtain ⟨g1, g2, g3⟩ := f3 c3
      by_cases c4 : t (S (j + 1)).2.1 = 20041
      · rw [if_pos c4]
        have : (S (j + 1)).2.1 < T := by
          by_cases e : (S (j + 1)).2.1 = T
          · rw [e, hT] at c4; exact absurd c4 (by decide)
          · omega
        exact ⟨by show j ≤ (S (j + 1)).2.1 + 1; omega, this, fun _ => ⟨by show j < (S (j + 1)).2.1 + 1; omega, by show (S (j + 1)).2.2.length + j ≤ (S (j + 1)).2.1 + 1; omega, g3⟩⟩
      · rw [if_neg c4]
        exact ⟨by show j ≤ (S (j + 1)).2.1; omega, f2, fun w => ft w⟩
    · rw [if_neg c3]
      exact ⟨by show j ≤ (S (j + 1)).2.1; omega, f2, fun w => ft w⟩
theorem gd_sum {S : Option (Nat → pR)} {m : Nat} (hT : t T = 30000) (hm : 1 ≤ m) (hS : ∀ S', S = some S' → gdP T m false S') : gdP T m false (pFac t S) ∧ gdP T (m + 1) false (pProd t S) ∧ gdP T (m + 2) false (pSum t S) := by
  have h1 := gd_fac hT hm hS
  have h2 : gdP T (m + 1) false (pProd t S) := gd_ch (by rw [hT]; decide) (fun c h => opT_op (by unfold opM at h; unfold isOp; rw [h]; rfl)) h1
  have h3 : gdP T (m + 2) false (pSum t S) := gd_ch (by rw [hT]; decide) (fun c h => opT_op (by unfold opA at h; simp at h; rcases h with h | h <;> subst h <;> decide)) h2
  exact ⟨h1, h2, h3⟩
theorem gd_sub (hT : t T = 30000) : ∀ k, k ≤ 8 → ∀ S', pSub t k = some S' → gdP T (2 * k + 1) false S' := by
  intro k
  induction k with
  | zero => intro _ S' h; cases h
  | succ k ih =>
    intro hk S' h
    cases h
    exact (gd_sum (m := 2 * k + 1) hT (by omega) (ih (by omega))).2.2
theorem gd_all (hT : t T = 30000) {k : Nat} (hk : k ≤ 8) : gdP T (2 * k + 1) false (pFac t (pSub t k)) ∧ gdP T (2 * k + 2) false (pProd t (pSub t k)) ∧ gdP T (2 * k + 3) false (pSumD t k) :=
  gd_sum hT (by omega) (gd_sub hT k hk)
theorem gd_cmp (hT : t T = 30000) : gdP T 20 true (pCmp t) := by
  have h8 := (gd_all hT (k := 8) (by omega)).2.2
  intro j hj
  obtain ⟨f1, f2, f3⟩ := h8 j hj
  unfold pCmp
  by_cases c : (pSumD t 8 j).1 = true
  rotate_left
  · rw [if_neg c]; exact ⟨f1, f2, fun w => ft w⟩
  rw [if_pos c]
  obtain ⟨g1, g2, g3⟩ := f3 c
  by_cases c2 : isCp (t (pSumD t 8 j).2.1) = true
  rotate_left
  · rw [if_neg c2]; exact ⟨f1, f2, fun w => ft w⟩
  rw [if_pos c2]
  have hlt : (pSumD t 8 j).2.1 < T := by
    by_cases e : (pSumD t 8 j).2.1 = T
    · rw [e, hT] at c2; exact absurd c2 (by decide)
    · omega
  obtain ⟨p1, p2, p3⟩ := h8 ((pSumD t 8 j).2.1 + 1) (by omega)
  by_cases c3 : (pSumD t 8 ((pSumD t 8 j).2.1 + 1)).1 = true
  · rw [if_pos c3]
    obtain ⟨q1, q2, q3⟩ := p3 c3
    refine ⟨by show j ≤ (pSumD t 8 ((pSumD t 8 j).2.1 + 1)).2.1; omega, p2, fun _ => ⟨by show j < (pSumD t 8 ((pSumD t 8 j).2.1 + 1)).2.1; omega, ?_, seg_2 (seg_m g3 (by omega)) q3 (opT_cp c2) (by omega)⟩⟩
    show ((pSumD t 8 j).2.2 ++ (pSumD t 8 ((pSumD t 8 j).2.1 + 1)).2.2 ++ [t (pSumD t 8 j).2.1]).length + j ≤ (pSumD t 8 ((pSumD t 8 j).2.1 + 1)).2.1
    simp
    omega
  · rw [if_neg c3]
    exact ⟨by show j ≤ (pSumD t 8 ((pSumD t 8 j).2.1 + 1)).2.1; omega, p2, fun w => ft w⟩
theorem gd_cond (hT : t T = 30000) : gdP T 21 true (pCond t) :=
  gd_ch (by rw [hT]; decide) (fun c h => opT_an (by unfold opN at h; simpa using h)) (gd_cmp hT)
end GD
