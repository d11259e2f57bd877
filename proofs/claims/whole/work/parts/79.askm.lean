/-! ===== ask: counting couples ===== -/
theorem apF_s (a b : Int32) : apF a b = apF b a := by
  have h : zabs (a - b) = zabs (b - a) := by
    have e : b - a = -(a - b) := by rw [Int32.neg_sub]
    rw [e]
    generalize a - b = x
    have hr := ti_rng x
    by_cases h0 : x.toInt = -2147483648
    · have : x = -2147483648 := i32_e h0
      rw [this]; decide
    · have e2 : (-x).toInt = -x.toInt := ti_neg (by omega)
      rw [ti_eq, zabs_i (by omega), zabs_i (by omega), e2]
      omega
  unfold apF
  rw [h]
section CN
variable {b s : Nat → Bool} {q : Nat → Nat → Bool}
def bC (b : Nat → Bool) : Nat → Nat
  | 0 => 0
  | t + 1 => if b t = true then bC b t + 1 else bC b t
def shC (b s : Nat → Bool) : Nat → Nat
  | 0 => 0
  | t + 1 => if (b t && s t) = true then shC b s t + 1 else shC b s t
def n1C (b s : Nat → Bool) (q : Nat → Nat → Bool) (x : Nat) : Nat → Nat
  | 0 => 0
  | t + 1 => if (b t && s t && q t x) = true then n1C b s q x t + 1 else n1C b s q x t
def ccC (b s : Nat → Bool) (q : Nat → Nat → Bool) : Nat → Nat
  | 0 => 0
  | t + 1 => if (b t && s t) = true then ccC b s q t + n1C b s q t t else ccC b s q t
def r1C (b s : Nat → Bool) (q : Nat → Nat → Bool) (x : Nat) : Nat → Nat
  | 0 => 0
  | t + 1 => if (b t && (xor (s x) (s t) || (s x && q t x))) = true then r1C b s q x t + 1 else r1C b s q x t
def rrC (b s : Nat → Bool) (q : Nat → Nat → Bool) : Nat → Nat
  | 0 => 0
  | t + 1 => if b t = true then rrC b s q t + r1C b s q t t else rrC b s q t
theorem r1_y {x : Nat} (hx : s x = true) : ∀ t, r1C b s q x t + shC b s t = n1C b s q x t + bC b t := by
  intro t
  induction t with
  | zero => rfl
  | succ t ih =>
    unfold r1C shC n1C bC
    rw [hx]
    cases b t <;> cases s t <;> cases q t x <;> simp <;> omega
theorem r1_n {x : Nat} (hx : s x = false) : ∀ t, r1C b s q x t = shC b s t := by
  intro t
  induction t with
  | zero => rfl
  | succ t ih =>
    unfold r1C shC
    rw [hx]
    cases b t <;> cases s t <;> simp <;> omega
theorem shC_le : ∀ t, shC b s t ≤ bC b t := by
  intro t
  induction t with
  | zero => exact Nat.le_refl _
  | succ t ih =>
    unfold shC bC
    cases b t <;> cases s t <;> simp <;> omega
theorem bC_le : ∀ t, bC b t ≤ t := by
  intro t
  induction t with
  | zero => exact Nat.le_refl _
  | succ t ih =>
    unfold bC
    cases b t <;> simp <;> omega
theorem n1C_le {x : Nat} : ∀ t, n1C b s q x t ≤ t := by
  intro t
  induction t with
  | zero => exact Nat.le_refl _
  | succ t ih =>
    unfold n1C
    cases b t <;> cases s t <;> cases q t x <;> simp <;> omega
theorem ccC_le : ∀ t, t ≤ 12 → ccC b s q t ≤ 12 * t := by
  intro t
  induction t with
  | zero => intro _; exact Nat.le_refl _
  | succ t ih =>
    intro ht
    have h1 := ih (by omega)
    have h2 := n1C_le (b := b) (s := s) (q := q) (x := t) t
    unfold ccC
    by_cases c : (b t && s t) = true
    · rw [if_pos c]; omega
    · rw [if_neg c]; omega
theorem rr_cc : ∀ t, rrC b s q t = ccC b s q t + shC b s t * (bC b t - shC b s t) := by
  intro t
  induction t with
  | zero => rfl
  | succ t ih =>
    have hl := shC_le (b := b) (s := s) t
    have r1 := r1_y (b := b) (s := s) (q := q) (x := t)
    have r2 := r1_n (b := b) (s := s) (q := q) (x := t)
    unfold rrC ccC shC bC
    cases hb : b t
    · simp; exact ih
    · cases hs : s t
      · simp
        have e := r2 hs t
        rw [ih, e]
        have e2 : bC b t + 1 - shC b s t = (bC b t - shC b s t) + 1 := by omega
        rw [e2, Nat.mul_add, Nat.mul_one]
        omega
      · simp
        have e := r1 hs t
        rw [ih]
        have e2 : bC b t + 1 - (shC b s t + 1) = bC b t - shC b s t := by omega
        rw [Nat.add_mul, Nat.one_mul]
        omega
theorem rr_few : ∀ t, bC b t < 2 → rrC b s q t = 0 := by
  intro t
  have z : ∀ t x, bC b t = 0 → r1C b s q x t = 0 := by
    intro t x
    induction t with
    | zero => intro _; rfl
    | succ t ih =>
      intro h
      unfold bC at h
      unfold r1C
      cases hb : b t
      · rw [hb] at h; simp at h ⊢; exact ih h
      · rw [hb] at h; simp at h
  induction t with
  | zero => intro _; rfl
  | succ t ih =>
    intro h
    unfold bC at h
    unfold rrC
    cases hb : b t
    · rw [hb] at h; simp at h ⊢; exact ih h
    · rw [hb] at h
      simp at h ⊢
      exact ⟨ih (by omega), z t t (by omega)⟩
theorem rr_le {t : Nat} (ht : t ≤ 12) : rrC b s q t ≤ 288 := by
  rw [rr_cc]
  have h1 := ccC_le (b := b) (s := s) (q := q) t ht
  have h2 := shC_le (b := b) (s := s) t
  have h3 := bC_le (b := b) t
  have h4 : shC b s t * (bC b t - shC b s t) ≤ 12 * 12 := Nat.mul_le_mul (by omega) (by omega)
  omega
end CN
def btN (f t : Nat) : Bool := decide (f >>> t % 2 = 1)
def cntB (f : Nat) : Nat → Nat
  | 0 => 0
  | t + 1 => cntB f t + f >>> t % 2
theorem zbc_ca : ∀ a : Fin 64, ∀ b : Fin 64, zbc (nI (64 * a.val + b.val)) = nI (cntB (64 * a.val + b.val) 12) := by decide +kernel
theorem zbc_c (h : Nat) (hh : h < 4096) : zbc (nI h) = nI (cntB h 12) := by
  have := zbc_ca ⟨h / 64, by omega⟩ ⟨h % 64, by omega⟩
  simp only at this
  rw [show 64 * (h / 64) + h % 64 = h by omega] at this
  exact this
theorem cntB_b (f : Nat) : ∀ t, cntB f t = bC (btN f) t := by
  intro t
  induction t with
  | zero => rfl
  | succ t ih =>
    unfold cntB bC btN
    rw [ih]
    by_cases c : f >>> t % 2 = 1
    · rw [decide_eq_true c, if_pos rfl, c]; rfl
    · rw [decide_eq_false c, if_neg (by decide)]
      have : f >>> t % 2 = 0 := by omega
      rw [this]; rfl
theorem cntB_t {f n : Nat} (hf : f < 2 ^ n) : ∀ j, cntB f (n + j) = cntB f n := by
  intro j
  induction j with
  | zero => rfl
  | succ j ih =>
    show cntB f (n + j) + f >>> (n + j) % 2 = _
    have : f < 2 ^ (n + j) := Nat.lt_of_lt_of_le hf (Nat.pow_le_pow_right (by decide) (by omega))
    rw [ih, Nat.shiftRight_eq_div_pow, Nat.div_eq_of_lt this]
    omega
theorem zbc_n {f n : Nat} (hn : n ≤ 12) (hf : f < 2 ^ n) : zbc (nI f) = nI (bC (btN f) n) := by
  have h1 := p12 hn
  rw [zbc_c f (by omega), show 12 = n + (12 - n) by omega, cntB_t hf, cntB_b]
theorem bit_n {f t : Nat} (hf : f < 2 ^ 31) (ht : t < 12) : ((nI f >>> (nI t &&& 31)) &&& 1 = 1 ↔ btN f t = true) ∧ ((nI f >>> (nI t &&& 31)) &&& 1 = 0 ↔ btN f t = false) := by
  rw [shr_n hf ht]
  have h : f >>> t % 2 = 0 ∨ f >>> t % 2 = 1 := by omega
  unfold btN
  rcases h with h | h
  · rw [h]; constructor <;> decide
  · rw [h]; constructor <;> decide
