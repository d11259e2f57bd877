/-! ===== cross: places, ways and heights ===== -/
/-- what row o tells points at a place -/
def crP (I : zM2) (o : Nat) (x y : Int32) : Bool :=
  !(decide (x = I 170 (I o 0).toNatClampNeg) && decide (y = I 171 (I o 0).toNatClampNeg)) && decide (¬ I 164 25 < apF (wayF (x - I 170 (I o 0).toNatClampNeg) (y - I 171 (I o 0).toNatClampNeg)) (I o 3))
def slK (I : zM2) (o : Nat) (x y z : Int32) : Bool :=
  decide (¬ I 164 26 < zabs (slopeF (zabs (x - I 170 (I o 0).toNatClampNeg) + zabs (y - I 171 (I o 0).toNatClampNeg)) (z - (mG I (I 170 (I o 0).toNatClampNeg) (I 171 (I o 0).toNatClampNeg) + 1)) - I o 4))
def hhL (I : zM2) (o q : Nat) (x y : Int32) : Nat → Nat → Bool
  | 0, _ => false
  | m + 1, z => if (slK I o x y (nI z) && slK I q x y (nI z)) = true then true else hhL I o q x y m (z + 1)
def crS (h : Bool) (x y : Int32) (st : Nat → Int32) : Nat → Int32 := fun j =>
  if j = 0 then st 0 + 1 else if j = 1 then st 1 + (if h = true then 1 else 0) else if j = 2 then zmin (st 2) x else if j = 3 then zmax (st 3) x else if j = 4 then zmin (st 4) y else zmax (st 5) y
def crL (I : zM2) (o q : Nat) : Nat → Nat → (Nat → Int32) → Nat → Int32
  | 0, _, st => st
  | m + 1, p, st => crL I o q m (p + 1) (if (crP I o (nI (p / 64)) (nI (p % 64)) && crP I q (nI (p / 64)) (nI (p % 64))) = true then crS (hhL I o q (nI (p / 64)) (nI (p % 64)) 256 0) (nI (p / 64)) (nI (p % 64)) st else st)
def cr0 : Nat → Int32 := fun j => if j = 0 then 0 else if j = 1 then 0 else if j = 2 then 64 else if j = 3 then -1 else if j = 4 then 64 else -1
def crR (w : Int32) (st : Nat → Int32) : Int32 := if st 0 = 0 then -1 else if w = 0 then st 0 else if w = 1 then st 1 else if w = 2 then st 2 else if w = 3 then st 3 else if w = 4 then st 4 else if w = 5 then st 5 else -1
theorem hhL_iff {I : zM2} {o q : Nat} {x y : Int32} : ∀ m z, hhL I o q x y m z = true ↔ ∃ w, z ≤ w ∧ w < z + m ∧ slK I o x y (nI w) = true ∧ slK I q x y (nI w) = true := by
  intro m
  induction m with
  | zero => intro z; unfold hhL; exact ⟨fun h => absurd h (by decide), fun ⟨w, a, b, _⟩ => by omega⟩
  | succ m ih =>
    intro z
    unfold hhL
    by_cases c : (slK I o x y (nI z) && slK I q x y (nI z)) = true
    · rw [if_pos c]
      rw [Bool.and_eq_true] at c
      exact ⟨fun _ => ⟨z, by omega, by omega, c.1, c.2⟩, fun _ => rfl⟩
    · rw [if_neg c, ih (z + 1)]
      constructor
      · rintro ⟨w, a, b, e⟩; exact ⟨w, by omega, by omega, e⟩
      · rintro ⟨w, a, b, e⟩
        refine ⟨w, ?_, by omega, e⟩
        by_cases q2 : w = z
        · exfalso; subst q2; rw [Bool.and_eq_true] at c; exact c e
        · omega
/-! heights as whole numbers -/
def dI (I : zM2) (o : Nat) (x y : Int) : Int := ((x - (I 170 (I o 0).toNatClampNeg).toInt).natAbs : Int) + ((y - (I 171 (I o 0).toNatClampNeg).toInt).natAbs : Int)
def eI (I : zM2) (o : Nat) : Int := (mG I (I 170 (I o 0).toNatClampNeg) (I 171 (I o 0).toNatClampNeg)).toInt + 1
def leI (I : zM2) (o : Nat) (x y : Int) : Int := eI I o + -((-(((I o 4).toInt - (I 164 26).toInt) * dI I o x y)) / 100)
def grI (I : zM2) (o : Nat) (x y : Int) : Int := if (I o 4).toInt + (I 164 26).toInt < 999 then eI I o + -((-(((I o 4).toInt + (I 164 26).toInt + 1) * dI I o x y)) / 100) - 1 else 255
theorem ceil_le {a b : Int} : -((-a) / 100) ≤ b ↔ a ≤ 100 * b := by omega
theorem div_ge {a n v : Int} (hn : 0 < n) : v ≤ a / n ↔ v * n ≤ a := Int.le_ediv_iff_mul_le hn
theorem div_lt {a n v : Int} (hn : 0 < n) : a / n < v ↔ a < v * n := Int.ediv_lt_iff_lt_mul hn
theorem slK_iff {I : zM2} {o : Nat} {x y : Int32} {z : Nat} (hx : 0 ≤ x.toInt ∧ x.toInt ≤ 63) (hy : 0 ≤ y.toInt ∧ y.toInt ≤ 63) (hX : 0 ≤ (I 170 (I o 0).toNatClampNeg).toInt ∧ (I 170 (I o 0).toNatClampNeg).toInt ≤ 63) (hY : 0 ≤ (I 171 (I o 0).toNatClampNeg).toInt ∧ (I 171 (I o 0).toNatClampNeg).toInt ≤ 63)
    (he : 1 ≤ eI I o ∧ eI I o ≤ 61) (hS : 0 ≤ (I o 4).toInt ∧ (I o 4).toInt ≤ 999) (hB : 0 ≤ (I 164 26).toInt ∧ (I 164 26).toInt ≤ 200) (hd : 0 < dI I o x.toInt y.toInt) (hz : z ≤ 255) :
    slK I o x y (nI z) = true ↔ leI I o x.toInt y.toInt ≤ z ∧ (z : Int) ≤ grI I o x.toInt y.toInt := by
  unfold slK leI grI
  rw [decide_eq_true_eq, ti_lt]
  generalize hXX : I 170 (I o 0).toNatClampNeg = X at *
  generalize hYY : I 171 (I o 0).toNatClampNeg = Y at *
  have hde : dI I o x.toInt y.toInt = ((x.toInt - X.toInt).natAbs : Int) + ((y.toInt - Y.toInt).natAbs : Int) := by unfold dI; rw [hXX, hYY]
  have hee : eI I o = (mG I X Y).toInt + 1 := by unfold eI; rw [hXX, hYY]
  have e1 : (x - X).toInt = x.toInt - X.toInt := ti_sub (by omega) (by omega)
  have e2 : (y - Y).toInt = y.toInt - Y.toInt := ti_sub (by omega) (by omega)
  have a1 : (zabs (x - X)).toInt = ((x.toInt - X.toInt).natAbs : Int) := by rw [zabs_i (by rw [e1]; omega), e1]
  have a2 : (zabs (y - Y)).toInt = ((y.toInt - Y.toInt).natAbs : Int) := by rw [zabs_i (by rw [e2]; omega), e2]
  have en : (zabs (x - X) + zabs (y - Y)).toInt = dI I o x.toInt y.toInt := by rw [ti_add (by rw [a1, a2]; omega) (by rw [a1, a2]; omega), a1, a2, hde]
  generalize hN : zabs (x - X) + zabs (y - Y) = N at *
  have hd2 : dI I o x.toInt y.toInt ≤ 126 := by omega
  generalize dI I o x.toInt y.toInt = D at *
  have eg1 : (mG I X Y + 1).toInt = eI I o := by rw [ti_add (by rw [til.2.1]; omega) (by rw [til.2.1]; omega), til.2.1, hee]
  have eg2 : (nI z - (mG I X Y + 1)).toInt = (z : Int) - eI I o := by rw [ti_sub (by rw [eg1, nI_toInt (by omega)]; omega) (by rw [eg1, nI_toInt (by omega)]; omega), eg1, nI_toInt (by omega)]
  have e100 : (100 : Int32).toInt = 100 := rfl
  have eg3 : (100 * (nI z - (mG I X Y + 1))).toInt = 100 * ((z : Int) - eI I o) := by rw [ti_mul (by rw [eg2, e100]; omega) (by rw [eg2, e100]; omega), eg2, e100]
  have n0 : ¬ N = 0 := fun w => by rw [w, til.1] at en; omega
  have esl : (slopeF N (nI z - (mG I X Y + 1))).toInt = max (-999) (min 999 (100 * ((z : Int) - eI I o) / D)) := by
    unfold slopeF
    rw [if_neg n0, zmax_i, zmin_i, zfd_i (by omega), eg3, en]
    rfl
  have eab : (zabs (slopeF N (nI z - (mG I X Y + 1)) - I o 4)).toInt = ((max (-999) (min 999 (100 * ((z : Int) - eI I o) / D)) - (I o 4).toInt).natAbs : Int) := by
    have e9 : (slopeF N (nI z - (mG I X Y + 1)) - I o 4).toInt = max (-999) (min 999 (100 * ((z : Int) - eI I o) / D)) - (I o 4).toInt := by rw [ti_sub (by rw [esl]; omega) (by rw [esl]; omega), esl]
    rw [zabs_i (by rw [e9]; omega), e9]
  rw [eab]
  have k1 := div_ge (a := 100 * ((z : Int) - eI I o)) (n := D) (v := (I o 4).toInt - (I 164 26).toInt) hd
  have k2 := div_lt (a := 100 * ((z : Int) - eI I o)) (n := D) (v := (I o 4).toInt + (I 164 26).toInt + 1) hd
  generalize 100 * ((z : Int) - eI I o) / D = v at *
  have c1 := ceil_le (a := ((I o 4).toInt - (I 164 26).toInt) * D) (b := (z : Int) - eI I o)
  have c2 := ceil_le (a := ((I o 4).toInt + (I 164 26).toInt + 1) * D) (b := (z : Int) - eI I o)
  generalize ((I o 4).toInt - (I 164 26).toInt) * D = u1 at *
  generalize ((I o 4).toInt + (I 164 26).toInt + 1) * D = u2 at *
  generalize -(-u1 / 100) = q1 at *
  generalize -(-u2 / 100) = q2 at *
  generalize eI I o = e at *
  generalize (I o 4).toInt = S at *
  generalize (I 164 26).toInt = B at *
  by_cases c : S + B < 999
  · rw [if_pos c]
    omega
  · rw [if_neg c]
    omega
