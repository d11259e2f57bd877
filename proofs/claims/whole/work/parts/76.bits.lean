/-! ===== fitting things as bits ===== -/
theorem nI_or {a b : Nat} (ha : a < 2 ^ 31) (hb : b < 2 ^ 31) : nI a ||| nI b = nI (a ||| b) := by
  apply Int32.toBitVec_inj.mp
  rw [Int32.toBitVec_or]
  apply BitVec.eq_of_toNat_eq
  rw [BitVec.toNat_or]
  show (BitVec.ofNat 32 a).toNat ||| (BitVec.ofNat 32 b).toNat = (BitVec.ofNat 32 (a ||| b)).toNat
  have hc : a ||| b < 2 ^ 31 := Nat.or_lt_two_pow ha hb
  rw [BitVec.toNat_ofNat, BitVec.toNat_ofNat, BitVec.toNat_ofNat, Nat.mod_eq_of_lt (by omega), Nat.mod_eq_of_lt (by omega), Nat.mod_eq_of_lt (by omega)]
theorem nI_and {a b : Nat} (ha : a < 2 ^ 31) (hb : b < 2 ^ 31) : nI a &&& nI b = nI (a &&& b) := by
  apply Int32.toBitVec_inj.mp
  rw [Int32.toBitVec_and]
  apply BitVec.eq_of_toNat_eq
  rw [BitVec.toNat_and]
  show (BitVec.ofNat 32 a).toNat &&& (BitVec.ofNat 32 b).toNat = (BitVec.ofNat 32 (a &&& b)).toNat
  have hc : a &&& b < 2 ^ 31 := Nat.and_lt_two_pow a hb
  rw [BitVec.toNat_ofNat, BitVec.toNat_ofNat, BitVec.toNat_ofNat, Nat.mod_eq_of_lt (by omega), Nat.mod_eq_of_lt (by omega), Nat.mod_eq_of_lt (by omega)]
theorem sh1 : ∀ n, n < 13 → (1 : Int32) <<< (nI n &&& 31) = nI (2 ^ n) := by decide
theorem shr1 : ∀ t, t < 12 → nI t &&& 31 = nI t := by decide
theorem shr_n {f t : Nat} (hf : f < 2 ^ 31) (ht : t < 12) : (nI f >>> (nI t &&& 31)) &&& 1 = nI (f >>> t % 2) := by
  have e : nI f >>> (nI t &&& 31) = nI (f >>> t) := by
    rw [shr1 t ht]
    have h1 : nI f >>> nI t = Int32.ofBitVec ((nI f).toBitVec.sshiftRight t) := by
      rcases (show t = 0 ∨ t = 1 ∨ t = 2 ∨ t = 3 ∨ t = 4 ∨ t = 5 ∨ t = 6 ∨ t = 7 ∨ t = 8 ∨ t = 9 ∨ t = 10 ∨ t = 11 by omega) with rfl | rfl | rfl | rfl | rfl | rfl | rfl | rfl | rfl | rfl | rfl | rfl <;> rfl
    rw [h1]
    rw [ti_eq]
    show ((nI f).toBitVec.sshiftRight t).toInt = _
    have hs : f >>> t ≤ f := by rw [Nat.shiftRight_eq_div_pow]; exact Nat.div_le_self _ _
    rw [BitVec.toInt_sshiftRight, nI_toInt (by omega)]
    show (nI f).toInt >>> t = _
    rw [nI_toInt hf]
    rfl
  have hs : f >>> t ≤ f := by rw [Nat.shiftRight_eq_div_pow]; exact Nat.div_le_self _ _
  rw [e, show (1 : Int32) = nI 1 from rfl, nI_and (by omega) (by decide), Nat.and_one_is_mod]
def fitM (I : zM2) (k : Nat) : Nat → Nat
  | 0 => 0
  | t + 1 => if (neF I t (183 + k) 1 3 4 && neF I t (183 + k) 2 5 6) = true then fitM I k t ||| 2 ^ t else fitM I k t
theorem fitM_lt (I : zM2) (k : Nat) : ∀ t, fitM I k t < 2 ^ t := by
  intro t
  induction t with
  | zero => exact Nat.one_pos
  | succ t ih =>
    have h2 : 2 ^ t < 2 ^ (t + 1) := Nat.pow_lt_pow_right (by decide) (by omega)
    unfold fitM
    by_cases c : (neF I t (183 + k) 1 3 4 && neF I t (183 + k) 2 5 6) = true
    · rw [if_pos c]; exact Nat.or_lt_two_pow (by omega) h2
    · rw [if_neg c]; omega
theorem p12 {t : Nat} (h : t ≤ 12) : 2 ^ t ≤ 4096 := Nat.pow_le_pow_right (n := 2) (by decide) h
theorem fitN_M (I : zM2) (k : Nat) : ∀ t, t ≤ 12 → fitN I k t = nI (fitM I k t) := by
  intro t
  induction t with
  | zero => intro _; rfl
  | succ t ih =>
    intro ht
    have hl := fitM_lt I k t
    have hp := p12 (t := t) (by omega)
    unfold fitN fitM
    by_cases c : (neF I t (183 + k) 1 3 4 && neF I t (183 + k) 2 5 6) = true
    · rw [if_pos c, if_pos c, ih (by omega), sh1 t (by omega), nI_or (by omega) (by omega)]
    · rw [if_neg c, if_neg c, ih (by omega)]
/-- what fits, as a number below 2 ^ things -/
def fitB (I : zM2) (k : Nat) : Nat := fitM I k (nT I)
theorem fitF_B {I : zM2} {k : Nat} (h : nT I ≤ 12) : fitF I k = nI (fitB I k) ∧ fitB I k < 2 ^ nT I ∧ fitB I k < 4096 := by
  have hl := fitM_lt I k (nT I)
  have hp := p12 h
  exact ⟨fitN_M I k _ h, hl, by unfold fitB; omega⟩
theorem nI_z {a : Nat} (h : a < 2 ^ 31) : nI a = 0 ↔ a = 0 := by
  rw [show (0 : Int32) = nI 0 from rfl, nI_eq h (by decide)]
