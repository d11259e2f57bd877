/-! ===== whole numbers: 32 bits as integers ===== -/
theorem ti_lt {x y : Int32} : x < y ↔ x.toInt < y.toInt := Int32.lt_iff_toInt_lt
theorem ti_le {x y : Int32} : x ≤ y ↔ x.toInt ≤ y.toInt := Int32.le_iff_toInt_le
theorem ti_eq {x y : Int32} : x = y ↔ x.toInt = y.toInt := Int32.toInt_inj.symm
theorem ti_bm {n : Int} (h1 : -2147483648 ≤ n) (h2 : n < 2147483648) : n.bmod (2 ^ 32) = n := by
  apply Int.bmod_eq_of_le <;> omega
theorem ti_add {x y : Int32} (h1 : -2147483648 ≤ x.toInt + y.toInt) (h2 : x.toInt + y.toInt < 2147483648) : (x + y).toInt = x.toInt + y.toInt := by
  rw [Int32.toInt_add, ti_bm h1 h2]
theorem ti_sub {x y : Int32} (h1 : -2147483648 ≤ x.toInt - y.toInt) (h2 : x.toInt - y.toInt < 2147483648) : (x - y).toInt = x.toInt - y.toInt := by
  rw [Int32.toInt_sub, ti_bm h1 h2]
theorem ti_mul {x y : Int32} (h1 : -2147483648 ≤ x.toInt * y.toInt) (h2 : x.toInt * y.toInt < 2147483648) : (x * y).toInt = x.toInt * y.toInt := by
  rw [Int32.toInt_mul, ti_bm h1 h2]
theorem ti_neg {x : Int32} (h : -2147483648 < x.toInt) : (-x).toInt = -x.toInt := by
  have h2 := Int32.toInt_lt x
  rw [Int32.toInt_neg, ti_bm (by omega) (by omega)]
theorem ti_rng (x : Int32) : -2147483648 ≤ x.toInt ∧ x.toInt < 2147483648 := ⟨Int32.le_toInt x, Int32.toInt_lt x⟩
theorem td_np {x y : Int} (hx : x ≤ 0) (hy : 0 ≤ y) : x.tdiv y ≤ 0 := by
  have h := Int.tdiv_nonneg (a := -x) (b := y) (by omega) hy
  rw [Int.neg_tdiv] at h
  omega
/-- a quotient that can't leave the range -/
theorem ti_div {x y : Int32} (h : -2147483648 < x.toInt ∨ 0 ≤ y.toInt) : (x / y).toInt = x.toInt.tdiv y.toInt := by
  have hx := ti_rng x
  have hy := ti_rng y
  rw [Int32.toInt_div]
  have hb : -2147483648 ≤ x.toInt.tdiv y.toInt ∧ x.toInt.tdiv y.toInt < 2147483648 := by
    have h1 : (x.toInt.tdiv y.toInt).natAbs ≤ x.toInt.natAbs := by
      rw [Int.natAbs_tdiv]
      exact Nat.div_le_self _ _
    rcases h with h | h
    · omega
    · by_cases h0 : y.toInt = 0
      · rw [h0, Int.tdiv_zero]; omega
      · by_cases hx0 : 0 ≤ x.toInt
        · omega
        · have := td_np (x := x.toInt) (y := y.toInt) (by omega) h
          omega
  exact ti_bm hb.1 hb.2
theorem ti_divp {x y : Int32} (hx : 0 ≤ x.toInt) : (x / y).toInt = x.toInt / y.toInt := by
  rw [ti_div (by omega), Int.tdiv_eq_ediv_of_nonneg hx]
theorem ti_modp {x y : Int32} (hx : 0 ≤ x.toInt) : (x % y).toInt = x.toInt % y.toInt := by
  rw [Int32.toInt_mod, Int.tmod_eq_emod_of_nonneg hx]
theorem ti_tn {x : Int32} (h : 0 ≤ x.toInt) : (x.toNatClampNeg : Int) = x.toInt := Int.toNat_of_nonneg h
theorem ti_tnn (x : Int32) : x.toNatClampNeg = x.toInt.toNat := rfl
theorem ti_n {n : Nat} (h : n < 2 ^ 31) : (nI n).toInt = n := nI_toInt h
theorem ti_of {x : Int32} (h : 0 ≤ x.toInt) : x = nI x.toNatClampNeg := by
  have h2 := ti_rng x
  have h3 := ti_tn h
  rw [ti_eq, ti_n (by omega), h3]
theorem vin_i {i : Int32} {n : Nat} (h0 : 0 ≤ i.toInt) (h1 : i.toInt < n) : vp_in i n := vp_in_iff.mpr ⟨h0, h1⟩
theorem zmax_i (x y : Int32) : (zmax x y).toInt = max x.toInt y.toInt := by
  unfold zmax
  by_cases h : x < y
  · rw [if_pos h]; rw [ti_lt] at h; omega
  · rw [if_neg h]; rw [ti_lt] at h; omega
theorem zmin_i (x y : Int32) : (zmin x y).toInt = min x.toInt y.toInt := by
  unfold zmin
  by_cases h : y < x
  · rw [if_pos h]; rw [ti_lt] at h; omega
  · rw [if_neg h]; rw [ti_lt] at h; omega
theorem zabs_i {x : Int32} (h : -2147483648 < x.toInt) : (zabs x).toInt = (x.toInt.natAbs : Int) := by
  unfold zabs
  have e0 : (0 : Int32).toInt = 0 := rfl
  by_cases h1 : 0 ≤ x
  · rw [if_pos h1]; rw [ti_le, e0] at h1; omega
  · rw [if_neg h1, ti_neg h]; rw [ti_le, e0] at h1; omega
theorem zmax_c (x y : Int32) : zmax x y = zmax y x := by rw [ti_eq, zmax_i, zmax_i]; omega
theorem zmin_c (x y : Int32) : zmin x y = zmin y x := by rw [ti_eq, zmin_i, zmin_i]; omega
theorem zinr_i {x lo hi : Int64} : zinr x lo hi = (decide (lo.toInt ≤ x.toInt) && decide (x.toInt ≤ hi.toInt)) := by
  unfold zinr
  simp only [Int64.le_iff_toInt_le]
theorem ti_64 (x : Int32) : x.toInt64.toInt = x.toInt := Int32.toInt_toInt64 x
/-- between two whole numbers -/
def bR (lo hi : Int) (x : Int32) : Bool := decide (lo ≤ x.toInt) && decide (x.toInt ≤ hi)
theorem bR_t {lo hi : Int} {x : Int32} : bR lo hi x = true ↔ lo ≤ x.toInt ∧ x.toInt ≤ hi := by simp [bR]
theorem bR_z {x : Int32} {a b : Int64} : zinr x.toInt64 a b = bR a.toInt b.toInt x := by rw [zinr_i, ti_64]; rfl
theorem bR_z2 {x y : Int32} {a : Int64} : zinr x.toInt64 a y.toInt64 = bR a.toInt y.toInt x := by rw [zinr_i, ti_64, ti_64]; rfl
theorem bR_z3 {x y w : Int32} : zinr x.toInt64 w.toInt64 y.toInt64 = bR w.toInt y.toInt x := by rw [zinr_i, ti_64, ti_64, ti_64]; rfl
theorem xor_pos {x y : Int32} : 0 ≤ (x ^^^ y) ↔ (0 ≤ x.toInt ↔ 0 ≤ y.toInt) := by
  have e0 : (0 : Int32).toInt = 0 := rfl
  have h1 : (x ^^^ y).toInt < 0 ↔ ¬ ((x.toInt < 0) ↔ (y.toInt < 0)) := by
    have := BitVec.msb_xor (x := x.toBitVec) (y := y.toBitVec)
    rw [BitVec.msb_eq_toInt, BitVec.msb_eq_toInt, BitVec.msb_eq_toInt] at this
    have e : (x.toBitVec ^^^ y.toBitVec).toInt = (x ^^^ y).toInt := rfl
    have ex : x.toBitVec.toInt = x.toInt := rfl
    have ey : y.toBitVec.toInt = y.toInt := rfl
    rw [e, ex, ey] at this
    by_cases a : x.toInt < 0 <;> by_cases b : y.toInt < 0 <;> simp [a, b] at this ⊢ <;> omega
  rw [ti_le, e0]
  omega
theorem zfd_m {x y : Int32} (hy : 0 < y.toInt) : (x / y * y).toInt = x.toInt.tdiv y.toInt * y.toInt := by
  have hx := ti_rng x
  have h1 : (x.toInt.tdiv y.toInt * y.toInt).natAbs ≤ x.toInt.natAbs := by
    rw [Int.natAbs_mul, Int.natAbs_tdiv]
    exact Nat.div_mul_le_self _ _
  rw [Int32.toInt_mul, ti_div (Or.inr (by omega))]
  by_cases h0 : 0 ≤ x.toInt
  · exact ti_bm (by omega) (by omega)
  · have := td_np (x := x.toInt) (y := y.toInt) (by omega) (by omega)
    have := Int.mul_nonpos_of_nonpos_of_nonneg this (show 0 ≤ y.toInt by omega)
    exact ti_bm (by omega) (by omega)
theorem zfd_i {x y : Int32} (hy : 0 < y.toInt) : (zfd x y).toInt = x.toInt / y.toInt := by
  have hx := ti_rng x
  have hyr := ti_rng y
  have hd := ti_div (x := x) (y := y) (Or.inr (by omega))
  have e1 : (1 : Int32).toInt = 1 := rfl
  have hm := zfd_m (x := x) hy
  have hq := Int.tdiv_eq_ediv (a := x.toInt) (b := y.toInt)
  rw [Int.sign_eq_one_of_pos hy] at hq
  unfold zfd
  by_cases hs : 0 ≤ x.toInt
  · rw [if_pos (xor_pos.mpr (by omega)), hd, Int.tdiv_eq_ediv_of_nonneg hs]
  · rw [if_neg (by rw [xor_pos]; omega)]
    by_cases h4 : x / y * y = x
    · rw [if_pos h4, hd]
      rw [ti_eq, hm] at h4
      have : y.toInt ∣ x.toInt := ⟨_, by rw [Int.mul_comm]; exact h4.symm⟩
      rw [if_pos (Or.inr this)] at hq
      omega
    · rw [if_neg h4]
      rw [ti_eq, hm] at h4
      have hnd : ¬ (0 ≤ x.toInt ∨ y.toInt ∣ x.toInt) := by
        intro h
        rcases h with h | h
        · exact hs h
        · exact h4 (Int.tdiv_mul_cancel h)
      rw [if_neg hnd] at hq
      have hb : x.toInt ≤ x.toInt / y.toInt := by
        have h5 := Int.ediv_mul_le x.toInt (show y.toInt ≠ 0 by omega)
        by_cases h6 : x.toInt / y.toInt < x.toInt
        · exfalso
          have h7 : x.toInt < (x.toInt / y.toInt + 1) * y.toInt := Int.lt_ediv_add_one_mul_self _ hy
          have h8 : (x.toInt / y.toInt + 1) * y.toInt ≤ (x.toInt / y.toInt + 1) * 1 := by
            apply Int.mul_le_mul_of_nonpos_left <;> omega
          omega
        · omega
      have hb2 := td_np (x := x.toInt) (y := y.toInt) (by omega) (by omega)
      rw [ti_sub (by rw [hd, e1]; omega) (by rw [hd, e1]; omega), hd, e1]
      omega
theorem shr4 (x : Int32) : (x >>> 4).toInt = x.toInt / 16 := by
  have e : (x >>> 4).toInt = (x.toBitVec.sshiftRight 4).toInt := rfl
  rw [e, BitVec.toInt_sshiftRight, Int.shiftRight_eq_div_pow]
  rfl
theorem zfd16 (x : Int32) : zfd x 16 = x >>> 4 := by
  rw [ti_eq, shr4, zfd_i (by decide)]
  rfl
theorem zfm_i {x y : Int32} (hy : 0 < y.toInt) : (zfm x y).toInt = x.toInt % y.toInt := by
  have hx := ti_rng x
  have hyr := ti_rng y
  have e0 : (0 : Int32).toInt = 0 := rfl
  have hd : (x % y).toInt = x.toInt.tmod y.toInt := Int32.toInt_mod x y
  have hq := Int.tmod_eq_emod (a := x.toInt) (b := y.toInt)
  have hp := Int.emod_nonneg x.toInt (show y.toInt ≠ 0 by omega)
  have hl := Int.emod_lt_of_pos x.toInt hy
  unfold zfm
  by_cases hs : 0 ≤ x.toInt
  · rw [if_pos (xor_pos.mpr (by omega)), hd, Int.tmod_eq_emod_of_nonneg hs]
  · rw [if_neg (by rw [xor_pos]; omega)]
    by_cases h4 : x % y = 0
    · rw [if_pos h4]
      rw [ti_eq, e0, hd] at h4
      have : y.toInt ∣ x.toInt := Int.dvd_of_tmod_eq_zero h4
      rw [hd, h4, Int.emod_eq_zero_of_dvd this]
    · rw [if_neg h4]
      rw [ti_eq, e0, hd] at h4
      have hnd : ¬ (0 ≤ x.toInt ∨ y.toInt ∣ x.toInt) := by
        intro h
        rcases h with h | h
        · exact hs h
        · exact h4 (Int.tmod_eq_zero_of_dvd h)
      rw [if_neg hnd] at hq
      rw [ti_add (by rw [hd]; omega) (by rw [hd]; omega), hd]
      omega
