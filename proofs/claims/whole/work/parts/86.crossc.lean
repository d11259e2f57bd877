/-! ===== cross: the class's place ===== -/
theorem pl_d {p : Nat} (h : p < 4096) : nI p / 64 = nI (p / 64) ∧ nI p % 64 = nI (p % 64) := by
  have e : (64 : Int32).toInt = 64 := rfl
  have e0 : (nI p).toInt = p := nI_toInt (by omega)
  constructor
  · rw [ti_eq, ti_divp (by omega), e, e0, nI_toInt (by omega)]; omega
  · rw [ti_eq, ti_modp (by omega), e, e0, nI_toInt (by omega)]; omega
theorem pl_r {p : Nat} (h : p < 4096) : (0 ≤ (nI (p / 64)).toInt ∧ (nI (p / 64)).toInt ≤ 63) ∧ (0 ≤ (nI (p % 64)).toInt ∧ (nI (p % 64)).toInt ≤ 63) ∧ (nI p).toInt = (nI (p / 64)).toInt * 64 + (nI (p % 64)).toInt := by
  rw [nI_toInt (by omega), nI_toInt (by omega), nI_toInt (by omega)]
  omega
theorem mulb {a b : Int} (ha : a.natAbs ≤ 1200) (hb : b.natAbs ≤ 126) : -151200 ≤ a * b ∧ a * b ≤ 151200 := by
  have h : (a * b).natAbs ≤ 1200 * 126 := by
    rw [Int.natAbs_mul]
    exact Nat.mul_le_mul ha hb
  omega
/-- what stands in row a, and about its seer -/
theorem cr_f {s : zS} {a : Nat} (hC : Core s) (ha : a < nK s.1) :
    vp_in (s.1 (183 + a) 0) 20 ∧ (0 ≤ (s.1 170 (s.1 (183 + a) 0).toNatClampNeg).toInt ∧ (s.1 170 (s.1 (183 + a) 0).toNatClampNeg).toInt ≤ 63) ∧ (0 ≤ (s.1 171 (s.1 (183 + a) 0).toNatClampNeg).toInt ∧ (s.1 171 (s.1 (183 + a) 0).toNatClampNeg).toInt ≤ 63) ∧
    s.1 69 (s.1 (183 + a) 0).toNatClampNeg / 64 = s.1 170 (s.1 (183 + a) 0).toNatClampNeg ∧ s.1 69 (s.1 (183 + a) 0).toNatClampNeg % 64 = s.1 171 (s.1 (183 + a) 0).toNatClampNeg ∧ (s.1 69 (s.1 (183 + a) 0).toNatClampNeg).toInt = (s.1 170 (s.1 (183 + a) 0).toNatClampNeg).toInt * 64 + (s.1 171 (s.1 (183 + a) 0).toNatClampNeg).toInt ∧
    (1 ≤ eI s.1 (183 + a) ∧ eI s.1 (183 + a) ≤ 61) ∧ (0 ≤ (s.1 (183 + a) 4).toInt ∧ (s.1 (183 + a) 4).toInt ≤ 999) ∧ (0 ≤ (s.1 164 26).toInt ∧ (s.1 164 26).toInt ≤ 200) := by
  have hl := hC.2.2.2.2.2.1.2.2 a ha
  obtain ⟨w1, w2⟩ := seN hC.2.2.2.2.1 hl.2.1
  have sv := RelS_v hC.2.2.2.2.1 w1
  have hg := mG_60 hC.2.1 (s.1 170 (s.1 (183 + a) 0).toNatClampNeg) (s.1 171 (s.1 (183 + a) 0).toNatClampNeg)
  exact ⟨w2, ⟨sv.1, sv.2.1⟩, ⟨sv.2.2.1, sv.2.2.2.1⟩, sv.2.2.2.2.1, sv.2.2.2.2.2.1, sv.2.2.2.2.2.2, ⟨by unfold eI; omega, by unfold eI; omega⟩, bR_t.mp hl.2.2.2.2.2.2.1, hC.2.2.1.2.2.2⟩
theorem crP_d {I : zM2} {o : Nat} {x y : Int32} (h : crP I o x y = true) : 0 < dI I o x.toInt y.toInt := by
  unfold crP at h
  rw [Bool.and_eq_true] at h
  have h1 := h.1
  unfold dI
  by_cases a : x = I 170 (I o 0).toNatClampNeg
  · by_cases b : y = I 171 (I o 0).toNatClampNeg
    · rw [decide_eq_true a, decide_eq_true b] at h1; exact absurd h1 (by decide)
    · have : ¬ y.toInt = (I 171 (I o 0).toNatClampNeg).toInt := fun e => b (i32_e e)
      omega
  · have : ¬ x.toInt = (I 170 (I o 0).toNatClampNeg).toInt := fun e => a (i32_e e)
    omega
section CX
variable {l : Launch} {g : zG} {d : Nat} {s : zS} {a b p : Nat}
theorem c_eyeAt (hC : Core s) {v : Int32} {K : Int32 → zS → Prop} (h : K (mG s.1 (v / 64) (v % 64) + 1) s) : zc l g (d + 1) M_X7_eyeAt [.ref 64, .int v] s (zKi K) :=
  t_X7_eyeAt hC.1 (c_groundAt hC.1 hC.2.1 ⟨rfl, h⟩)
theorem c_ceil (hR : zRok s) {v : Int32} {K : Int32 → zS → Prop} (hv : -2147483648 < v.toInt) (h : ∀ r : Int32, r.toInt = -((-v.toInt) / 100) → K r s) : zc l g (d + 1) M_X7_ceilDiv [.int v, .int 100] s (zKi K) := by
  refine t_X7_ceilDiv hR ?_
  rw [if_pos (by decide)]
  refine ⟨by decide, h _ ?_⟩
  have hr := ti_rng v
  have e : (-v).toInt = -v.toInt := ti_neg hv
  have e2 : (zfd (-v) 100).toInt = (-v.toInt) / 100 := by rw [zfd_i (by decide), e]; rfl
  rw [ti_neg (by rw [e2]; omega), e2]
/-- one place and a telling's seer -/
theorem at_seer {x y X Y V P : Int32} (gx : 0 ≤ x.toInt ∧ x.toInt ≤ 63) (gy : 0 ≤ y.toInt ∧ y.toInt ≤ 63) (g3 : P.toInt = x.toInt * 64 + y.toInt) (fx : 0 ≤ X.toInt ∧ X.toInt ≤ 63) (fy : 0 ≤ Y.toInt ∧ Y.toInt ≤ 63) (f6 : V.toInt = X.toInt * 64 + Y.toInt) : V = P ↔ x = X ∧ y = Y := by
  rw [ti_eq, ti_eq, ti_eq]
  omega
theorem crP_n {c1 c2 ap : Prop} [Decidable c1] [Decidable c2] [Decidable ap] (h : c1 ∧ c2) : (!(decide c1 && decide c2) && decide ap) = false := by
  rw [decide_eq_true h.1, decide_eq_true h.2]
  rfl
theorem crP_y {c1 c2 ap : Prop} [Decidable c1] [Decidable c2] [Decidable ap] (h : ¬ (c1 ∧ c2)) : (!(decide c1 && decide c2) && decide ap) = decide ap := by
  by_cases h1 : c1
  · have h2 : ¬ c2 := fun w => h ⟨h1, w⟩
    rw [decide_eq_true h1, decide_eq_false h2]
    rfl
  · rw [decide_eq_false h1]
    rfl
theorem c_pointsG (hR : zRok s) {q : Nat} (hq : 104 ≤ q ∧ q < 164) {P x y X Y w3 : Int32} {i : Int32} (e0 : s.1 q 0 = i) (e3 : s.1 q 3 = w3) (hv : vp_in i 20) (f4 : s.1 69 i.toNatClampNeg / 64 = X) (f5 : s.1 69 i.toNatClampNeg % 64 = Y) (hP : s.1 69 i.toNatClampNeg = P ↔ x = X ∧ y = Y) (p1 : P / 64 = x) (p2 : P % 64 = y) {o8 : Int32} (e8 : s.1 64 8 = o8) {K : Bool → zS → Prop} (h : K (!(decide (x = X) && decide (y = Y)) && decide (¬ o8 < apF (wayF (x - X) (y - Y)) w3)) s) : zc l g (d + 2) M_X7_pointsAt [.ref 64, .ref q, .int P] s (zKz K) := by
  refine t_X7_pointsAt hR hq ?_
  rw [e0, p1, p2]
  refine ⟨hv, ?_⟩
  intro v2 e2
  rw [← e2] at f4 f5 hP
  rw [f4, f5]
  by_cases c : v2 = P
  · rw [if_pos c]
    rw [crP_n (hP.mp c)] at h
    exact h
  rw [if_neg c]
  rw [crP_y (fun w => c (hP.mpr w))] at h
  refine c_wayOf hR ⟨rfl, ?_⟩
  rw [e3]
  generalize wayF (x - X) (y - Y) = W at h ⊢
  refine c_apart hR ?_
  refine ⟨rfl, ?_⟩
  rw [e8]
  by_cases c2 : o8 < apF W w3
  · rw [if_pos c2]; rw [decide_eq_false (fun w => w c2)] at h; exact h
  · rw [if_neg c2]; rw [decide_eq_true c2] at h; exact h
theorem c_pointsAt (hC : Core s) (ha : a < nK s.1) (hp : p < 4096) {K : Bool → zS → Prop} (h : K (crP s.1 (183 + a) (nI (p / 64)) (nI (p % 64))) s) : zc l g (d + 2) M_X7_pointsAt [.ref 64, .ref (104 + a), .int (nI p)] s (zKz K) := by
  have n60 := (Core_c7 hC).2.2
  have hl := hC.2.2.2.2.2.1.2.2 a ha
  obtain ⟨f1, f2, f3, f4, f5, f6, -, -, -⟩ := cr_f hC ha
  obtain ⟨g1, g2, g3⟩ := pl_r hp
  exact c_pointsG hC.1 (q := 104 + a) ⟨by omega, by omega⟩ (hl.1 0 (by decide)) (hl.1 3 (by decide)) f1 f4 f5 (at_seer g1 g2 g3 f2 f3 f6) (pl_d hp).1 (pl_d hp).2 hC.2.2.1.1 h
theorem c_dist (hC : Core s) (ha : a < nK s.1) (hp : p < 4096) : (zabs (s.1 170 (s.1 (183 + a) 0).toNatClampNeg - nI (p / 64)) + zabs (s.1 171 (s.1 (183 + a) 0).toNatClampNeg - nI (p % 64))).toInt = dI s.1 (183 + a) (nI (p / 64)).toInt (nI (p % 64)).toInt ∧ 0 ≤ dI s.1 (183 + a) (nI (p / 64)).toInt (nI (p % 64)).toInt ∧ dI s.1 (183 + a) (nI (p / 64)).toInt (nI (p % 64)).toInt ≤ 126 := by
  obtain ⟨-, f2, f3, -⟩ := cr_f hC ha
  obtain ⟨g1, g2, -⟩ := pl_r hp
  have e1 : (s.1 170 (s.1 (183 + a) 0).toNatClampNeg - nI (p / 64)).toInt = (s.1 170 (s.1 (183 + a) 0).toNatClampNeg).toInt - (nI (p / 64)).toInt := ti_sub (by omega) (by omega)
  have e2 : (s.1 171 (s.1 (183 + a) 0).toNatClampNeg - nI (p % 64)).toInt = (s.1 171 (s.1 (183 + a) 0).toNatClampNeg).toInt - (nI (p % 64)).toInt := ti_sub (by omega) (by omega)
  have a1 := zabs_i (x := s.1 170 (s.1 (183 + a) 0).toNatClampNeg - nI (p / 64)) (by rw [e1]; omega)
  have a2 := zabs_i (x := s.1 171 (s.1 (183 + a) 0).toNatClampNeg - nI (p % 64)) (by rw [e2]; omega)
  rw [e1] at a1
  rw [e2] at a2
  unfold dI
  refine ⟨?_, by omega, by omega⟩
  rw [ti_add (by omega) (by omega)]
  omega
theorem c_leastH (hC : Core s) (ha : a < nK s.1) (hp : p < 4096) {K : Int32 → zS → Prop} (h : ∀ r : Int32, r.toInt = leI s.1 (183 + a) (nI (p / 64)).toInt (nI (p % 64)).toInt → K r s) : zc l g (d + 2) M_X7_leastHeight [.ref 64, .ref (104 + a), .int (nI p)] s (zKi K) := by
  have n60 := (Core_c7 hC).2.2
  have hl := hC.2.2.2.2.2.1.2.2 a ha
  obtain ⟨f1, f2, f3, f4, f5, f6, f7, f8, f9⟩ := cr_f hC ha
  obtain ⟨d1, d2, d3⟩ := c_dist hC ha hp
  refine t_X7_leastHeight hC.1 (by omega) ?_
  rw [hl.1 0 (by decide), hl.1 4 (by decide), hC.2.2.1.2.1]
  refine ⟨f1, ?_⟩
  intro v2 e2
  subst e2
  refine c_eyeAt (d := d) hC ⟨rfl, t_X7_distance hC.1 ⟨rfl, ?_⟩⟩
  rw [f4, f5, (pl_d hp).1, (pl_d hp).2]
  have eS : (s.1 (183 + a) 4 - s.1 164 26).toInt = (s.1 (183 + a) 4).toInt - (s.1 164 26).toInt := ti_sub (by omega) (by omega)
  have mb := mulb (a := (s.1 (183 + a) 4).toInt - (s.1 164 26).toInt) (b := dI s.1 (183 + a) (nI (p / 64)).toInt (nI (p % 64)).toInt) (by omega) (by omega)
  have eM : ((s.1 (183 + a) 4 - s.1 164 26) * (zabs (s.1 170 (s.1 (183 + a) 0).toNatClampNeg - nI (p / 64)) + zabs (s.1 171 (s.1 (183 + a) 0).toNatClampNeg - nI (p % 64)))).toInt = ((s.1 (183 + a) 4).toInt - (s.1 164 26).toInt) * dI s.1 (183 + a) (nI (p / 64)).toInt (nI (p % 64)).toInt := by
    rw [ti_mul (by rw [eS, d1]; omega) (by rw [eS, d1]; omega), eS, d1]
  refine c_ceil (d := d) hC.1 (by rw [eM]; omega) (fun r hr => ⟨rfl, h _ ?_⟩)
  rw [eM] at hr
  have eE : (mG s.1 (s.1 170 (s.1 (183 + a) 0).toNatClampNeg) (s.1 171 (s.1 (183 + a) 0).toNatClampNeg) + 1).toInt = eI s.1 (183 + a) := by
    unfold eI at f7 ⊢
    rw [ti_add (by rw [til.2.1]; omega) (by rw [til.2.1]; omega), til.2.1]
  unfold leI
  rw [ti_add (by rw [eE]; omega) (by rw [eE]; omega), eE, hr]
theorem c_greatH (hC : Core s) (ha : a < nK s.1) (hp : p < 4096) {K : Int32 → zS → Prop} (h : ∀ r : Int32, r.toInt = grI s.1 (183 + a) (nI (p / 64)).toInt (nI (p % 64)).toInt → K r s) : zc l g (d + 2) M_X7_greatestHeight [.ref 64, .ref (104 + a), .int (nI p)] s (zKi K) := by
  have n60 := (Core_c7 hC).2.2
  have hl := hC.2.2.2.2.2.1.2.2 a ha
  obtain ⟨f1, f2, f3, f4, f5, f6, f7, f8, f9⟩ := cr_f hC ha
  obtain ⟨d1, d2, d3⟩ := c_dist hC ha hp
  have e999 : (999 : Int32).toInt = 999 := rfl
  have eS : (s.1 (183 + a) 4 + s.1 164 26).toInt = (s.1 (183 + a) 4).toInt + (s.1 164 26).toInt := ti_add (by omega) (by omega)
  refine t_X7_greatestHeight hC.1 (by omega) ?_
  rw [hl.1 0 (by decide), hl.1 4 (by decide), hC.2.2.1.2.1]
  refine ⟨f1, ?_⟩
  intro v2 e2
  subst e2
  unfold grI at h
  by_cases c : s.1 (183 + a) 4 + s.1 164 26 < 999
  rotate_left
  · rw [if_neg c]
    rw [ti_lt, eS, e999] at c
    rw [if_neg c] at h
    exact h 255 rfl
  rw [if_pos c]
  rw [ti_lt, eS, e999] at c
  rw [if_pos c] at h
  refine c_eyeAt (d := d) hC ⟨rfl, t_X7_distance hC.1 ⟨rfl, ?_⟩⟩
  rw [f4, f5, (pl_d hp).1, (pl_d hp).2]
  have eS1 : (s.1 (183 + a) 4 + s.1 164 26 + 1).toInt = (s.1 (183 + a) 4).toInt + (s.1 164 26).toInt + 1 := by rw [ti_add (by rw [eS, til.2.1]; omega) (by rw [eS, til.2.1]; omega), eS, til.2.1]
  have mb := mulb (a := (s.1 (183 + a) 4).toInt + (s.1 164 26).toInt + 1) (b := dI s.1 (183 + a) (nI (p / 64)).toInt (nI (p % 64)).toInt) (by omega) (by omega)
  have eM : ((s.1 (183 + a) 4 + s.1 164 26 + 1) * (zabs (s.1 170 (s.1 (183 + a) 0).toNatClampNeg - nI (p / 64)) + zabs (s.1 171 (s.1 (183 + a) 0).toNatClampNeg - nI (p % 64)))).toInt = ((s.1 (183 + a) 4).toInt + (s.1 164 26).toInt + 1) * dI s.1 (183 + a) (nI (p / 64)).toInt (nI (p % 64)).toInt := by
    rw [ti_mul (by rw [eS1, d1]; omega) (by rw [eS1, d1]; omega), eS1, d1]
  refine c_ceil (d := d) hC.1 (by rw [eM]; omega) (fun r hr => ⟨rfl, h _ ?_⟩)
  rw [eM] at hr
  have eE : (mG s.1 (s.1 170 (s.1 (183 + a) 0).toNatClampNeg) (s.1 171 (s.1 (183 + a) 0).toNatClampNeg) + 1).toInt = eI s.1 (183 + a) := by
    unfold eI at f7 ⊢
    rw [ti_add (by rw [til.2.1]; omega) (by rw [til.2.1]; omega), til.2.1]
  have eA : (mG s.1 (s.1 170 (s.1 (183 + a) 0).toNatClampNeg) (s.1 171 (s.1 (183 + a) 0).toNatClampNeg) + 1 + r).toInt = eI s.1 (183 + a) + r.toInt := by rw [ti_add (by rw [eE]; omega) (by rw [eE]; omega), eE]
  rw [ti_sub (by rw [eA, til.2.1]; omega) (by rw [eA, til.2.1]; omega), eA, til.2.1, hr]
theorem c_share (hC : Core s) (ha : a < nK s.1) (hb : b < nK s.1) (hp : p < 4096) (ca : crP s.1 (183 + a) (nI (p / 64)) (nI (p % 64)) = true) (cb : crP s.1 (183 + b) (nI (p / 64)) (nI (p % 64)) = true) {K : Bool → zS → Prop} (h : K (hhL s.1 (183 + a) (183 + b) (nI (p / 64)) (nI (p % 64)) 256 0) s) : zc l g (d + 3) M_X7_shareHeight [.ref 64, .ref (104 + a), .ref (104 + b), .int (nI p)] s (zKz K) := by
  have n60 := (Core_c7 hC).2.2
  obtain ⟨-, f2, f3, -, -, -, f7, f8, f9⟩ := cr_f hC ha
  obtain ⟨-, q2, q3, -, -, -, q7, q8, q9⟩ := cr_f hC hb
  obtain ⟨g1, g2, -⟩ := pl_r hp
  refine t_X7_shareHeight hC.1 (by omega) (by omega) ?_
  refine c_leastH (d := d) hC ha hp (fun r2 h2 => ⟨rfl, ?_⟩)
  refine c_leastH (d := d) hC hb hp (fun r4 h4 => ⟨rfl, ?_⟩)
  intro v5 e5
  subst e5
  refine c_greatH (d := d) hC ha hp (fun r7 h7 => ⟨rfl, ?_⟩)
  refine c_greatH (d := d) hC hb hp (fun r9 h9 => ⟨rfl, ?_⟩)
  intro v10 e10
  subst e10
  have key : hhL s.1 (183 + a) (183 + b) (nI (p / 64)) (nI (p % 64)) 256 0 = true ↔ ¬ zmin 255 (zmin r7 r9) < zmax 0 (zmax r2 r4) := by
    rw [hhL_iff, ti_lt, zmin_i, zmin_i, zmax_i, zmax_i, til.1, show (255 : Int32).toInt = 255 from rfl]
    constructor
    · rintro ⟨w, -, w2, k1, k2⟩
      rw [slK_iff g1 g2 f2 f3 f7 f8 f9 (crP_d ca) (by omega)] at k1
      rw [slK_iff g1 g2 q2 q3 q7 q8 q9 (crP_d cb) (by omega)] at k2
      omega
    · intro w
      refine ⟨(max 0 (max r2.toInt r4.toInt)).toNat, by omega, by omega, ?_, ?_⟩
      · rw [slK_iff g1 g2 f2 f3 f7 f8 f9 (crP_d ca) (by omega)]; omega
      · rw [slK_iff g1 g2 q2 q3 q7 q8 q9 (crP_d cb) (by omega)]; omega
  by_cases c : zmin 255 (zmin r7 r9) < zmax 0 (zmax r2 r4)
  · rw [if_pos c]
    have : hhL s.1 (183 + a) (183 + b) (nI (p / 64)) (nI (p % 64)) 256 0 = false := by
      rw [Bool.eq_false_iff]; intro w; exact (key.mp w) c
    rw [this] at h; exact h
  · rw [if_neg c]
    rw [key.mpr c] at h; exact h
end CX
