/-! ===== outs: what a flare shows over a place ===== -/
/-- the ground under step k of the line -/
def gkI (I : zM2) (i : Nat) (x y : Int32) (k : Nat) : Int := (mG I (I 170 i + ((x - I 170 i) * nI k) >>> 4) (I 171 i + ((y - I 171 i) * nI k) >>> 4)).toInt
def eyI (I : zM2) (i : Nat) : Int := (mG I (I 170 i) (I 171 i)).toInt + 1
def upI (I : zM2) (i : Nat) (x y : Int32) (z : Int) : Prop := (mG I x y).toInt + 1 ≤ z ∧ ∀ k : Nat, 1 ≤ k → k < 16 → gkI I i x y k ≤ eyI I i + (z - eyI I i) * k / 16
def upB (I : zM2) (i : Nat) (x y z : Int32) : Bool := decide (¬ z ≤ mG I x y) && decide (hidF I i x y z = -1)
theorem upI_m {I : zM2} {i : Nat} {x y : Int32} {z z' : Int} (h : z ≤ z') (u : upI I i x y z) : upI I i x y z' := by
  refine ⟨by have := u.1; omega, fun k a b => ?_⟩
  have h1 := u.2 k a b
  have h2 : (z - eyI I i) * k ≤ (z' - eyI I i) * k := Int.mul_le_mul_of_nonneg_right (by omega) (by omega)
  omega
theorem hidL_iff {I : zM2} {fx fy e dx dy rz : Int32} (he : 1 ≤ e.toInt) (he2 : e.toInt ≤ 61) (hr : -10000 ≤ rz.toInt) (hr2 : rz.toInt ≤ 10000) (hz : 1 ≤ e.toInt + rz.toInt) : ∀ (m k : Nat), k + m = 16 →
    (hidL I fx fy e dx dy rz m k = -1 ↔ ∀ k' : Nat, k ≤ k' → k' < 16 → (mG I (fx + (dx * nI k') >>> 4) (fy + (dy * nI k') >>> 4)).toInt ≤ e.toInt + rz.toInt * k' / 16) := by
  intro m
  induction m with
  | zero => intro k hk; exact ⟨fun _ k' a b => by omega, fun _ => rfl⟩
  | succ m ih =>
    intro k hk
    have el := line_i (e := e) (rz := rz) (k := k) (by omega) he2 hr hr2 (by omega)
    unfold hidL
    have cle : mG I (fx + (dx * nI k) >>> 4) (fy + (dy * nI k) >>> 4) ≤ e + (rz * nI k) >>> 4 ↔ (mG I (fx + (dx * nI k) >>> 4) (fy + (dy * nI k) >>> 4)).toInt ≤ e.toInt + rz.toInt * k / 16 := by rw [ti_le, el]
    by_cases c : (mG I (fx + (dx * nI k) >>> 4) (fy + (dy * nI k) >>> 4)).toInt ≤ e.toInt + rz.toInt * k / 16
    · rw [if_pos (cle.mpr c), ih (k + 1) (by omega)]
      constructor
      · intro w k' a b
        by_cases q : k' = k
        · rw [q]; exact c
        · exact w k' (by omega) b
      · intro w k' a b
        exact w k' (by omega) b
    · rw [if_neg (fun u => c (cle.mp u))]
      constructor
      · intro w
        exfalso
        have g0 : mG I (fx + (dx * nI k) >>> 4) (fy + (dy * nI k) >>> 4) = 0 := by rw [mG, if_pos w]
        rw [g0, til.1] at c
        have : 1 ≤ e.toInt + rz.toInt * k / 16 := by
          by_cases q : 0 ≤ rz.toInt
          · have : 0 ≤ rz.toInt * k := Int.mul_nonneg q (by omega)
            omega
          · have h2 : rz.toInt * 16 ≤ rz.toInt * k := Int.mul_le_mul_of_nonpos_left (by omega) (by omega)
            omega
        omega
      · intro w
        exact absurd (w k (Nat.le_refl _) (by omega)) c
theorem upB_iff {I : zM2} (hH : RelH I) {i : Nat} {x y z : Int32} (hz : -10000 ≤ z.toInt ∧ z.toInt ≤ 9000) : upB I i x y z = true ↔ upI I i x y z.toInt := by
  have g1 := mG_60 hH x y
  have g2 := mG_60 hH (I 170 i) (I 171 i)
  unfold upB
  rw [Bool.and_eq_true, decide_eq_true_eq, decide_eq_true_eq, ti_le]
  by_cases c : z.toInt ≤ (mG I x y).toInt
  · exact ⟨fun w => absurd c w.1, fun w => by have := w.1; omega⟩
  have e1 : (mG I (I 170 i) (I 171 i) + 1).toInt = eyI I i := by unfold eyI; rw [ti_add (by rw [til.2.1]; omega) (by rw [til.2.1]; omega), til.2.1]
  have e2 : (z - (mG I (I 170 i) (I 171 i) + 1)).toInt = z.toInt - eyI I i := by
    have : 1 ≤ eyI I i ∧ eyI I i ≤ 61 := by unfold eyI; omega
    rw [ti_sub (by rw [e1]; omega) (by rw [e1]; omega), e1]
  have he : 1 ≤ eyI I i ∧ eyI I i ≤ 61 := by unfold eyI; omega
  unfold hidF
  rw [hidL_iff (by rw [e1]; omega) (by rw [e1]; omega) (by rw [e2]; omega) (by rw [e2]; omega) (by rw [e1, e2]; omega) 15 1 (by omega), e1, e2]
  unfold upI gkI
  constructor
  · rintro ⟨a, b⟩; exact ⟨by omega, b⟩
  · rintro ⟨a, b⟩; exact ⟨by omega, b⟩
theorem cd_ge {a k z : Int} (hk : 0 < k) : -((-a) / k) ≤ z ↔ a ≤ z * k := by
  have := div_ge (a := -a) (n := k) (v := -z) hk
  rw [Int.neg_mul] at this
  omega
section LS
variable {l : Launch} {g : zG} {d : Nat} {s : zS} {i p : Nat}
theorem c_ceilk (hR : zRok s) {v : Int32} {k : Nat} (hk : 1 ≤ k ∧ k < 16) {K : Int32 → zS → Prop} (hv : -2147483648 < v.toInt) (h : ∀ r : Int32, r.toInt = -((-v.toInt) / k) → K r s) : zc l g (d + 1) M_X7_ceilDiv [.int v, .int (nI k)] s (zKi K) := by
  have ek : (nI k).toInt = k := nI_toInt (by omega)
  refine t_X7_ceilDiv hR ?_
  rw [if_pos (by rw [ti_le, ek]; simp only [til]; omega)]
  refine ⟨nI_ne0 (by omega) (by omega), h _ ?_⟩
  have hr := ti_rng v
  have e : (-v).toInt = -v.toInt := ti_neg hv
  have e2 : (zfd (-v) (nI k)).toInt = (-v.toInt) / k := by rw [zfd_i (by omega), e, ek]
  have b1 : (-v.toInt) / k ≤ max 0 (-v.toInt) := by
    by_cases q : 0 ≤ -v.toInt
    · have := Int.ediv_le_self (k : Int) q; omega
    · have := Int.ediv_neg_of_neg_of_pos (a := -v.toInt) (b := k) (by omega) (by omega); omega
  have b2 : min 0 (-v.toInt) ≤ (-v.toInt) / k := by
    by_cases q : 0 ≤ -v.toInt
    · have := Int.ediv_nonneg (a := -v.toInt) (b := k) q (by omega); omega
    · have := div_ge (a := -v.toInt) (n := k) (v := -v.toInt) (by omega)
      have h2 : -v.toInt * k ≤ -v.toInt * 1 := Int.mul_le_mul_of_nonpos_left (by omega) (by omega)
      omega
  rw [ti_neg (by rw [e2]; omega), e2]
theorem c_least_57 (hC : Core s) (hi : i < nS s.1) {x y : Int32} {K : Int32 → zS → Prop} (h : ∀ r : Int32, -5000 ≤ r.toInt → r.toInt ≤ 5000 → (∀ z : Int, r.toInt ≤ z ↔ upI s.1 i x y z) → K r s) :
    ∀ m k (c : Int32), 1 ≤ k → k + m = 16 → -5000 ≤ c.toInt → c.toInt ≤ 5000 → (∀ z : Int, c.toInt ≤ z ↔ (mG s.1 x y).toInt + 1 ≤ z ∧ ∀ k' : Nat, 1 ≤ k' → k' < k → gkI s.1 i x y k' ≤ eyI s.1 i + (z - eyI s.1 i) * k' / 16) →
    zt l g (d + 2) M_X7_leastShown 57 [.ref 64, zJ, zJ, .int (s.1 170 i), .int (s.1 171 i), .int (x - s.1 170 i), .int (y - s.1 171 i), .int (mG s.1 (s.1 170 i) (s.1 171 i) + 1), .int c, .int (nI k), zJ] [] s (zKi K) := by
  intro m
  induction m with
  | zero =>
    intro k c k1 hk c1 c2 hc
    refine t_X7_leastShown_57 hC.1 ?_
    rw [if_pos (by rw [ti_le, nI_toInt (by omega), show (16 : Int32).toInt = 16 from rfl]; omega)]
    refine h c c1 c2 (fun z => ?_)
    rw [hc z]
    have : k = 16 := by omega
    subst this
    exact Iff.rfl
  | succ m ih =>
    intro k c k1 hk c1 c2 hc
    refine t_X7_leastShown_57 hC.1 ?_
    rw [if_neg (by rw [ti_le, nI_toInt (by omega), show (16 : Int32).toInt = 16 from rfl]; omega), ← nI_succ, show (4 : Int32) &&& 31 = 4 from rfl]
    refine c_groundAt hC.1 hC.2.1 ⟨rfl, ?_⟩
    have hg := mG_60 hC.2.1 (s.1 170 i + ((x - s.1 170 i) * nI k) >>> 4) (s.1 171 i + ((y - s.1 171 i) * nI k) >>> 4)
    have hgk : (mG s.1 (s.1 170 i + ((x - s.1 170 i) * nI k) >>> 4) (s.1 171 i + ((y - s.1 171 i) * nI k) >>> 4)).toInt = gkI s.1 i x y k := rfl
    have he := mG_60 hC.2.1 (s.1 170 i) (s.1 171 i)
    have e1 : (mG s.1 (s.1 170 i) (s.1 171 i) + 1).toInt = eyI s.1 i := by unfold eyI; rw [ti_add (by rw [til.2.1]; omega) (by rw [til.2.1]; omega), til.2.1]
    have he2 : 1 ≤ eyI s.1 i ∧ eyI s.1 i ≤ 61 := by unfold eyI; omega
    generalize mG s.1 (s.1 170 i + ((x - s.1 170 i) * nI k) >>> 4) (s.1 171 i + ((y - s.1 171 i) * nI k) >>> 4) = G at *
    have e16 : (16 : Int32).toInt = 16 := rfl
    have e2 : (G - (mG s.1 (s.1 170 i) (s.1 171 i) + 1)).toInt = gkI s.1 i x y k - eyI s.1 i := by rw [ti_sub (by rw [e1]; omega) (by rw [e1]; omega), e1, hgk]
    have e3 : ((G - (mG s.1 (s.1 170 i) (s.1 171 i) + 1)) * 16).toInt = (gkI s.1 i x y k - eyI s.1 i) * 16 := by rw [ti_mul (by rw [e2, e16]; omega) (by rw [e2, e16]; omega), e2, e16]
    refine c_ceilk (d := d) hC.1 (k := k) ⟨k1, by omega⟩ (by rw [e3]; omega) (fun r hr => ⟨rfl, ?_⟩)
    rw [e3] at hr
    have kpos : (0 : Int) < k := by omega
    have hcd := fun z : Int => cd_ge (a := (gkI s.1 i x y k - eyI s.1 i) * 16) (k := k) (z := z) kpos
    rw [← hr] at hcd
    have r1 : -1000 ≤ r.toInt := by
      have h9 := (hcd (-1001))
      by_cases w : r.toInt ≤ -1001
      · have h10 := h9.mp w
        have : (-1001 : Int) * k ≤ -1001 * 1 := Int.mul_le_mul_of_nonpos_left (by omega) (by omega)
        omega
      · omega
    have r2 : r.toInt ≤ 1000 := by
      rw [hcd 1000]
      have : (1000 : Int) * 1 ≤ 1000 * k := Int.mul_le_mul_of_nonneg_left (by omega) (by omega)
      omega
    have e4 : (mG s.1 (s.1 170 i) (s.1 171 i) + 1 + r).toInt = eyI s.1 i + r.toInt := by rw [ti_add (by rw [e1]; omega) (by rw [e1]; omega), e1]
    refine ih (k + 1) _ (by omega) (by omega) (by rw [zmax_i, e4]; omega) (by rw [zmax_i, e4]; omega) (fun z => ?_)
    rw [zmax_i, e4]
    have q1 := hc z
    have q2 := hcd (z - eyI s.1 i)
    have q3 : gkI s.1 i x y k ≤ eyI s.1 i + (z - eyI s.1 i) * k / 16 ↔ (gkI s.1 i x y k - eyI s.1 i) * 16 ≤ (z - eyI s.1 i) * k := by
      have := div_ge (a := (z - eyI s.1 i) * k) (n := 16) (v := gkI s.1 i x y k - eyI s.1 i) (by decide)
      omega
    constructor
    · intro w
      have w1 := q1.mp (by omega)
      refine ⟨w1.1, fun k' a b => ?_⟩
      by_cases e : k' = k
      · rw [e, q3, ← q2]; omega
      · exact w1.2 k' a (by omega)
    · rintro ⟨w1, w2⟩
      have a1 := q1.mpr ⟨w1, fun k' a b => w2 k' a (by omega)⟩
      have a2 := q2.mpr (q3.mp (w2 k k1 (by omega)))
      omega
theorem c_leastShown (hC : Core s) (hi : i < nS s.1) (hp : p < 4096) {K : Int32 → zS → Prop} (h : ∀ r : Int32, -5000 ≤ r.toInt → r.toInt ≤ 5000 → (∀ z : Int, r.toInt ≤ z ↔ upI s.1 i (nI (p / 64)) (nI (p % 64)) z) → K r s) :
    zc l g (d + 2) M_X7_leastShown [.ref 64, .int (s.1 69 i), .int (nI p)] s (zKi K) := by
  have sv := RelS_v hC.2.2.2.2.1 hi
  refine t_X7_leastShown hC.1 ?_
  rw [(pl_d hp).1, (pl_d hp).2, sv.2.2.2.2.1, sv.2.2.2.2.2.1]
  intro v1 e1 v2 e2
  subst e1 e2
  refine c_eyeAt (d := d) hC ⟨rfl, ?_⟩
  rw [sv.2.2.2.2.1, sv.2.2.2.2.2.1]
  refine c_groundAt hC.1 hC.2.1 ⟨rfl, ?_⟩
  have hg := mG_60 hC.2.1 (nI (p / 64)) (nI (p % 64))
  have e1 : (mG s.1 (nI (p / 64)) (nI (p % 64)) + 1).toInt = (mG s.1 (nI (p / 64)) (nI (p % 64))).toInt + 1 := by rw [ti_add (by rw [til.2.1]; omega) (by rw [til.2.1]; omega), til.2.1]
  refine c_least_57 (d := d) hC hi h 15 1 _ (by omega) (by omega) (by omega) (by omega) (fun z => ?_)
  rw [e1]
  exact ⟨fun w => ⟨w, fun k' a b => by omega⟩, fun w => w.1⟩
theorem m_isUp (hC : Core s) {q x y z : Int32} (hw : vp_in q 20) {K : Bool → zS → Prop} (h : K (upB s.1 q.toNatClampNeg x y z) s) : zc l g (d + 5) M_X8_isUp [.ref 164, .int q, .int x, .int y, .int z] s (zKz K) := by
  refine t_X8_isUp hC.1 (m_groundAt (d := d + 2) hC.1 hC.2.1.1 ⟨rfl, ?_⟩)
  unfold upB at h
  by_cases c : z ≤ mG s.1 x y
  · rw [if_pos c]
    rw [decide_eq_false (fun w => w c), Bool.false_and] at h; exact h
  rw [if_neg c]
  rw [decide_eq_true c, Bool.true_and] at h
  refine m_hider (d := d) hC.1 hC.2.1.1 hw ⟨rfl, ?_⟩
  by_cases c2 : hidF s.1 q.toNatClampNeg x y z = -1
  · rw [if_pos c2]; rw [decide_eq_true c2] at h; exact h
  · rw [if_neg c2]; rw [decide_eq_false c2] at h; exact h
end LS
