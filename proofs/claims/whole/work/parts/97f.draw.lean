/-! ===== draw: lots ===== -/
theorem bm32 (x : Int) : (x.bmod (2 ^ 32)) % 2147483648 = x % 2147483648 := by
  rw [Int.bmod_eq_self_sub_mul_bdiv]
  omega
theorem bm64 (x : Int) : (x.bmod (2 ^ 64)) % 2147483648 = x % 2147483648 := by
  rw [Int.bmod_eq_self_sub_mul_bdiv]
  omega
theorem and31 (x : Int32) : (x &&& 2147483647).toInt = x.toInt % 2147483648 := by
  have h : (x &&& 2147483647).toBitVec.toNat = x.toBitVec.toNat % 2147483648 := by
    rw [Int32.toBitVec_and, BitVec.toNat_and]
    exact Nat.and_two_pow_sub_one_eq_mod _ 31
  have e1 : (x &&& 2147483647).toInt = (x &&& 2147483647).toBitVec.toInt := rfl
  have e2 : x.toInt = x.toBitVec.toInt := rfl
  have hl := x.toBitVec.isLt
  rw [e1, e2, BitVec.toInt_eq_toNat_cond, BitVec.toInt_eq_toNat_cond, h]
  split <;> split <;> omega
theorem and31L (x : Int64) : (x &&& 2147483647).toInt = x.toInt % 2147483648 := by
  have h : (x &&& 2147483647).toBitVec.toNat = x.toBitVec.toNat % 2147483648 := by
    rw [Int64.toBitVec_and, BitVec.toNat_and]
    exact Nat.and_two_pow_sub_one_eq_mod _ 31
  have e1 : (x &&& 2147483647).toInt = (x &&& 2147483647).toBitVec.toInt := rfl
  have e2 : x.toInt = x.toBitVec.toInt := rfl
  have hl := x.toBitVec.isLt
  rw [e1, e2, BitVec.toInt_eq_toNat_cond, BitVec.toInt_eq_toNat_cond, h]
  split <;> split <;> omega
def lotV (v : Nat) : Nat := (v * 1103515245 + 12345) % 2147483648
theorem lotV_lt (v : Nat) : lotV v < 2147483648 := Nat.mod_lt _ (by decide)
def lv : Nat → Nat → Nat
  | 0, v => v
  | k + 1, v => lotV (lv k v)
theorem lot32 {x : Int32} {v : Nat} (h : x.toInt = v) : (x * 1103515245 + 12345) &&& 2147483647 = nI (lotV v) := by
  have hl := lotV_lt v
  rw [ti_eq, and31, nI_toInt (by omega), Int32.toInt_add, bm32, Int32.toInt_mul, h, show (1103515245 : Int32).toInt = 1103515245 from rfl, show (12345 : Int32).toInt = 12345 from rfl, Int.bmod_eq_self_sub_mul_bdiv]
  unfold lotV
  omega
theorem lot64 {x : Int64} {v : Nat} (h : x.toInt = v) : ((x * 1103515245 + 12345) &&& 2147483647).toInt = lotV v := by
  rw [and31L, Int64.toInt_add, bm64, Int64.toInt_mul, h, show (1103515245 : Int64).toInt = 1103515245 from rfl, show (12345 : Int64).toInt = 12345 from rfl, Int.bmod_eq_self_sub_mul_bdiv]
  unfold lotV
  omega
def lotX (v : Nat) (p : Int32) : Nat := lotV v / 256 % p.toInt.toNat
theorem lotX_lt {v : Nat} {p : Int32} (hp : 1 ≤ p.toInt) : lotX v p < p.toInt.toNat := Nat.mod_lt _ (by omega)
theorem zLg_eq2 {σ : zS} {o k : Nat} {v : Int64} : (zLg σ o k v).2.1 o k = v := by
  unfold zLg
  exact if_pos ⟨rfl, rfl⟩
section LO
variable {l : Launch} {g : zG} {d : Nat} {s : zS} {v : Nat} {p : Int32} {K : Int32 → zS → Prop}
theorem c_lot (hR : zRok s) (hv : s.1 64 18 = nI v) (hv2 : v < 2147483648) (hp : 1 ≤ p.toInt) (h : ∀ s', zE (fun o j => o = 64 ∧ j = 18) s s' → s'.1 64 18 = nI (lotV v) → K (nI (lotX v p)) s') : zc l g d M_X7_lotBelow [.ref 64, .int p] s (zKi K) := by
  have hl := lotV_lt v
  have hpr := ti_rng p
  refine t_X7_lotBelow hR ?_
  rw [if_pos (by rw [ti_le, show (1 : Int32).toInt = 1 from rfl]; exact hp), hv, lot32 (nI_toInt (by omega))]
  refine ⟨fun e => by rw [e, til.1] at hp; omega, ?_⟩
  have er : nI (lotV v) / 256 % p = nI (lotX v p) := by
    have e256 : (256 : Int32).toInt = 256 := rfl
    have h1 : (nI (lotV v) / 256).toInt = (lotV v : Int) / 256 := by rw [ti_divp (by rw [nI_toInt (by omega)]; omega), nI_toInt (by omega), e256]
    have h3 := lotX_lt (v := v) hp
    have ep : p.toInt = (p.toInt.toNat : Int) := by omega
    rw [ti_eq, ti_modp (by rw [h1]; omega), h1, nI_toInt (by omega), ep]
    unfold lotX
    rw [Int.natCast_emod, Int.natCast_ediv]
    rfl
  rw [er]
  exact h _ (zE_i0 ⟨rfl, rfl⟩) zI_eq
theorem m_lot (hR : zRok s) (hv : (s.2.1 164 44).toInt = v) (hp : 1 ≤ p.toInt) (h : ∀ s' : zS, s'.1 = s.1 → s'.2.2 = s.2.2 → (s'.2.1 164 44).toInt = (lotV v : Int) → K (nI (lotX v p)) s') : zc l g d M_X8_lot [.ref 164, .int p] s (zKi K) := by
  have hl := lotV_lt v
  have hpr := ti_rng p
  have e4 := lot64 hv
  refine t_X8_lot hR ⟨fun e => ?_, ?_⟩
  · have := congrArg Int64.toInt e
    rw [ti_64, show (0 : Int64).toInt = 0 from rfl] at this
    omega
  have er : ((((s.2.1 164 44 * 1103515245 + 12345) &&& 2147483647) / 256) % p.toInt64).toInt32 = nI (lotX v p) := by
    have e256 : (256 : Int64).toInt = 256 := rfl
    have h1 : (((s.2.1 164 44 * 1103515245 + 12345) &&& 2147483647) / 256).toInt = (lotV v : Int) / 256 := by
      rw [Int64.toInt_div_of_ne_right _ _ (by decide), e4, e256, Int.tdiv_eq_ediv_of_nonneg (by omega)]
    have h3 := lotX_lt (v := v) hp
    have ep : p.toInt = (p.toInt.toNat : Int) := by omega
    have e5 : (lotX v p : Int) = (lotV v : Int) / 256 % p.toInt := by
      rw [ep]
      unfold lotX
      rw [Int.natCast_emod, Int.natCast_ediv]
      rfl
    rw [ti_eq, Int64.toInt_toInt32, Int64.toInt_mod, h1, ti_64, Int.tmod_eq_emod_of_nonneg (by omega), ← e5, nI_toInt (by omega)]
    exact ti_bm (by omega) (by omega)
  rw [er]
  refine h (zLg s 164 44 ((s.2.1 164 44 * 1103515245 + 12345) &&& 2147483647)) rfl rfl ?_
  rw [zLg_eq2]
  exact e4
end LO
/-! ===== draw: rows of tellings ===== -/
abbrev rT : Type := Int32 × Int32 × Int32 × Int32 × Int32
def rv (r : rT) (j : Nat) : Int32 := (rowW zS0 0 r.1 r.2.1 r.2.2.1 r.2.2.2.1 r.2.2.2.2).1 0 j
def tellV (ns : Int) (r : rT) : Prop := bR 0 (ns - 1) r.1 = true ∧ bSpan r.2.1 = true ∧ bR 0 255999 r.2.2.1 = true ∧ bR 0 255999 r.2.2.2.1 = true ∧ bLights r.2.2.2.2 = true
theorem rv_ok {I : zM2} {k : Nat} {r : rT} (h : tellV (I 164 18).toInt r) (h1 : ∀ j, j < 9 → I (104 + k) j = rv r j) (h2 : ∀ j, j < 9 → I (183 + k) j = rv r j) : lOK I k := by
  refine ⟨fun j hj => by rw [h1 j hj, h2 j hj], ?_⟩
  obtain ⟨a1, a2, a3, a4, a5⟩ := h
  have b2 := bSpan_v a2
  have b3 := bV_v a3
  have b4 := bV_v a4
  unfold bLights at a5
  rw [Bool.and_eq_true, Bool.and_eq_true] at a5
  rw [h2 0 (by decide), h2 1 (by decide), h2 2 (by decide), h2 3 (by decide), h2 4 (by decide), h2 5 (by decide), h2 6 (by decide), h2 7 (by decide), h2 8 (by decide)]
  unfold rv
  simp [-Int32.toInt_div, -Int32.toInt_mod, rowW, zI_1, a1, b2, b3, b4, a5]
def clS (k : Nat) : Nat → Nat → Prop := fun o j => (o = 64 ∧ j = 7) ∨ (o = 104 + k ∧ (j < 9 ∨ j = 10 ∨ j = 13))
def mlT (k : Nat) : Nat → Nat → Prop := fun o j => (o = 164 ∧ j = 24) ∨ (o = 183 + k ∧ j < 9)
section TD
variable {l : Launch} {g : zG} {d : Nat} {s : zS} {r : rT} {k : Nat} {K : Int32 → zS → Prop}
theorem c_tellD (hR : zRok s) (h3 : 0 ≤ (s.1 64 3).toInt) (hv : tellV (s.1 64 3).toInt r) (hk : s.1 64 7 = nI k) (h1 : ¬ k < 60 → K (-1) s) (h2 : k < 60 → ∀ s', zE (clS k) s s' → s'.1 64 7 = nI (k + 1) → (∀ j, j < 9 → s'.1 (104 + k) j = rv r j) → s'.1 (104 + k) 10 = 0 → s'.1 (104 + k) 13 = 0 → K (nI k) s') (hk6 : k ≤ 60) : zc l g (d + 2) M_X7_tell [.ref 64, .int r.1, .int r.2.1, .int r.2.2.1, .int r.2.2.2.1, .int r.2.2.2.2] s (zKi K) := by
  obtain ⟨a1, a2, a3, a4, a5⟩ := hv
  refine t_X7_tell (d := d + 1) hR (c_isSeer hR h3 ⟨rfl, ?_⟩)
  rw [if_pos a1]
  refine c_isSpan hR ⟨rfl, ?_⟩
  rw [if_pos a2]
  refine c_isDirection hR ⟨rfl, ?_⟩
  rw [if_pos a3]
  refine c_isDirection hR ⟨rfl, ?_⟩
  rw [if_pos a4]
  refine c_isLightsAndHull (d := d) hR ⟨rfl, ?_⟩
  rw [if_pos a5, hk]
  by_cases c : k < 60
  rotate_left
  · rw [if_neg (lit_nlt (c := 60) (b := 60) rfl (by omega) (by omega))]; exact h1 c
  rw [if_pos (lit_lt (c := 60) (b := 60) rfl c (by decide)), nI_clamp (by omega), ← nI_succ]
  refine ⟨vp_in_nI c (by decide), ?_⟩
  have n1 : ¬ (104 + k : Nat) = 64 := by omega
  have hE : zE (clS k) s (zI (zI (zI (rowW s (104 + k) r.1 r.2.1 r.2.2.1 r.2.2.2.1 r.2.2.2.2) (104 + k) 10 0) (104 + k) 13 0) 64 7 (nI (k + 1))) :=
    zE_i (zE_i (zE_i (rowW_E zE_r (fun j hj => Or.inr ⟨rfl, Or.inl hj⟩)) (Or.inr ⟨rfl, Or.inr (Or.inl rfl)⟩)) (Or.inr ⟨rfl, Or.inr (Or.inr rfl)⟩)) (Or.inl ⟨rfl, rfl⟩)
  refine h2 c _ hE zI_eq (fun j hj => ?_) ?_ ?_
  · show (zI (zI (zI (rowW s (104 + k) r.1 r.2.1 r.2.2.1 r.2.2.2.1 r.2.2.2.2) (104 + k) 10 0) (104 + k) 13 0) 64 7 (nI (k + 1))).1 (104 + k) j = rv r j
    rw [zI_o n1, zI_k (by omega), zI_k (by omega)]
    exact rowW_v hj
  · rw [zI_o n1, zI_k (by decide), zI_eq]
  · rw [zI_o n1, zI_eq]
theorem m_tellD (hR : zRok s) (h3 : 0 ≤ (s.1 164 18).toInt) (hv : tellV (s.1 164 18).toInt r) (hk : s.1 164 24 = nI k) (c : k < 60) (h2 : ∀ s', zE (mlT k) s s' → s'.1 164 24 = nI (k + 1) → (∀ j, j < 9 → s'.1 (183 + k) j = rv r j) → K (nI k) s') : zc l g (d + 3) M_X8_tell [.ref 164, .int r.1, .int r.2.1, .int r.2.2.1, .int r.2.2.2.1, .int r.2.2.2.2] s (zKi K) := by
  obtain ⟨a1, a2, a3, a4, a5⟩ := hv
  have a6 := bLi_m.mp a5
  refine t_X8_tell (d := d + 2) hR (m_isSeer (d := d + 1) hR h3 ⟨rfl, ?_⟩)
  rw [if_pos a1]
  refine m_areMinutes (d := d) hR ⟨rfl, ?_⟩
  rw [if_pos a2]
  refine m_isView (d := d + 1) hR ⟨rfl, ?_⟩
  rw [if_pos a3]
  refine m_isView (d := d + 1) hR ⟨rfl, ?_⟩
  rw [if_pos a4, show zinr r.2.2.2.2.toInt64 1 19 = bR 1 19 r.2.2.2.2 from zq1 rfl rfl, if_pos a6.1, if_neg a6.2, hk, if_neg (by rw [show (60 : Int32) = nI 60 from rfl, nI_eq (by omega) (by decide)]; omega), nI_clamp (by omega), i32_s1, ← nI_succ]
  refine ⟨vp_in_nI c (by decide), ?_⟩
  have n1 : ¬ (183 + k : Nat) = 164 := by omega
  have hE : zE (mlT k) s (zI (rowW s (183 + k) r.1 r.2.1 r.2.2.1 r.2.2.2.1 r.2.2.2.2) 164 24 (nI (k + 1))) :=
    zE_i (rowW_E zE_r (fun j hj => Or.inr ⟨rfl, hj⟩)) (Or.inl ⟨rfl, rfl⟩)
  refine h2 _ hE zI_eq (fun j hj => ?_)
  show (zI (rowW s (183 + k) r.1 r.2.1 r.2.2.1 r.2.2.2.1 r.2.2.2.2) 164 24 (nI (k + 1))).1 (183 + k) j = rv r j
  rw [zI_o n1]
  exact rowW_v hj
end TD
