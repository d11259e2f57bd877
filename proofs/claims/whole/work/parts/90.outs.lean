/-! ===== outs: both sides ===== -/
def ocB (I : zM2) (i : Nat) (zA zT : Int32) (p : Nat) : Bool := upB I i (nI (p / 64)) (nI (p % 64)) zA && !upB I i (nI (p / 64)) (nI (p % 64)) zT
def outC (I : zM2) (i : Nat) (zA zT : Int32) : Nat → Nat → Int32 → Int32
  | 0, _, c => c
  | m + 1, p, c => outC I i zA zT m (p + 1) (if ocB I i zA zT p = true then c + 1 else c)
section OTS
variable {l : Launch} {g : zG} {d : Nat} {s : zS} {q : Int32} {K : Int32 → zS → Prop}
theorem c_outs_82 (hC : Core s) (hw : vp_in q 20) (hi : q.toNatClampNeg < nS s.1) {zA zT : Int32} (hA : -10000 ≤ zA.toInt ∧ zA.toInt ≤ 9000) (hT : -10000 ≤ zT.toInt ∧ zT.toInt ≤ 9000) :
    ∀ m p c, p + m = 4096 → K (outC s.1 q.toNatClampNeg zA zT m p c) s → zt l g (d + 3) M_X7_outs 82 [.ref 64, .int q, zJ, zJ, zJ, zJ, .int zT, .int zA, .int c, .int (nI p), zJ] [] s (zKi K) := by
  intro m
  induction m with
  | zero =>
    intro p c hp h
    refine t_X7_outs_82 hC.1 ?_
    rw [if_pos (by rw [ti_le, nI_toInt (by omega), show (4096 : Int32).toInt = 4096 from rfl]; omega)]
    exact h
  | succ m ih =>
    intro p c hp h
    refine t_X7_outs_82 hC.1 ?_
    rw [if_neg (by rw [ti_le, nI_toInt (by omega), show (4096 : Int32).toInt = 4096 from rfl]; omega), ← nI_succ]
    refine ⟨hw, c_leastShown (d := d) hC hi (by omega) (fun r h1 h2 hr => ⟨rfl, ?_⟩)⟩
    unfold outC ocB at h
    have ua := (hr zA.toInt).trans (upB_iff hC.2.1 hA).symm
    have ut := (hr zT.toInt).trans (upB_iff hC.2.1 hT).symm
    by_cases c1 : zA < r
    · rw [if_pos c1]
      rw [ti_lt] at c1
      have : ¬ upB s.1 q.toNatClampNeg (nI (p / 64)) (nI (p % 64)) zA = true := fun w => by have := ua.mpr w; omega
      rw [Bool.eq_false_iff.mpr this, Bool.false_and, if_neg (by decide)] at h
      exact ih (p + 1) c (by omega) h
    rw [if_neg c1]
    rw [ti_lt] at c1
    rw [ua.mp (by omega), Bool.true_and] at h
    by_cases c2 : r ≤ zT
    · rw [if_pos c2]
      rw [ti_le] at c2
      rw [ut.mp c2, Bool.not_true, if_neg (by decide)] at h
      exact ih (p + 1) c (by omega) h
    · rw [if_neg c2]
      rw [ti_le] at c2
      have : ¬ upB s.1 q.toNatClampNeg (nI (p / 64)) (nI (p % 64)) zT = true := fun w => by have := ut.mpr w; omega
      rw [Bool.eq_false_iff.mpr this, Bool.not_false, if_pos rfl] at h
      exact ih (p + 1) (c + 1) (by omega) h
theorem m_outs_93 (hC : Core s) (hw : vp_in q 20) {z f : Int32} {F p : Nat} {c : Int32} (hp : p < 4096) (hF1 : 1 ≤ F) (hF : F ≤ 20)
    (hm : ∀ k j, k ≤ j → j ≤ F → upB s.1 q.toNatClampNeg (nI (p / 64)) (nI (p % 64)) (z - f * nI j) = true → upB s.1 q.toNatClampNeg (nI (p / 64)) (nI (p % 64)) (z - f * nI k) = true)
    (h : zt l g (d + 6) M_X8_outs 76 [.ref 164, .int q, zJ, .int z, .int f, .int (nI F), .int (if ocB s.1 q.toNatClampNeg (z - f * nI (F - 1)) (z - f * nI F) p = true then c + 1 else c), .int (nI (p + 1)), zJ, zJ, zJ, zJ] [] s (zKi K)) :
    ∀ m k (w : Bool), k + m = F + 1 → (w = true ↔ (1 ≤ k ∧ upB s.1 q.toNatClampNeg (nI (p / 64)) (nI (p % 64)) (z - f * nI (k - 1)) = true)) → (k = F + 1 → ¬ ocB s.1 q.toNatClampNeg (z - f * nI (F - 1)) (z - f * nI F) p = true) →
    zt l g (d + 6) M_X8_outs 93 [.ref 164, .int q, zJ, .int z, .int f, .int (nI F), .int c, .int (nI p), .int (zb w), .int (-1), .int (nI k), zJ] [] s (zKi K) := by
  have done : ∀ k, k ≤ F → ¬ nI k = -1 → (k = F ↔ ocB s.1 q.toNatClampNeg (z - f * nI (F - 1)) (z - f * nI F) p = true) → ∀ b : Int32, zt l g (d + 6) M_X8_outs 93 [.ref 164, .int q, zJ, .int z, .int f, .int (nI F), .int c, .int (nI p), .int b, .int (nI k), .int (nI (k + 1)), zJ] [] s (zKi K) := by
    intro k hk hn hkF b
    refine t_X8_outs_93 hC.1 ?_
    rw [if_neg hn, Int32.add_zero, ← nI_succ]
    have e : ∀ (A B : Prop), (¬ k = F → B) → (k = F → A) → (if nI k = nI F then A else B) := by
      intro A B hB hA
      by_cases w : k = F
      · rw [if_pos (by rw [w])]; exact hA w
      · rw [if_neg (by rw [nI_eq (by omega) (by omega)]; exact w)]; exact hB w
    have r2 : if nI k = nI F then zt l g (d + 6) M_X8_outs 76 [.ref 164, .int q, zJ, .int z, .int f, .int (nI F), .int (c + 1), .int (nI (p + 1)), zJ, zJ, zJ, zJ] [] s (zKi K) else zt l g (d + 6) M_X8_outs 76 [.ref 164, .int q, zJ, .int z, .int f, .int (nI F), .int c, .int (nI (p + 1)), zJ, zJ, zJ, zJ] [] s (zKi K) := by
      refine e _ _ (fun w => ?_) (fun w => ?_)
      · rw [if_neg (fun u => w (hkF.mpr u))] at h; exact h
      · rw [if_pos (hkF.mp w)] at h; exact h
    rw [ite_self]
    exact r2
  intro m
  induction m with
  | zero =>
    intro k w hk hwk hlast
    refine t_X8_outs_93 hC.1 ?_
    rw [if_pos (nI_lt (by omega) (by omega)), if_neg (fun e => nI_N1 (by omega) e.symm), Int32.add_zero, ← nI_succ]
    rw [if_neg (hlast (by omega))] at h
    exact h
  | succ m ih =>
    intro k w hk hwk hlast
    refine t_X8_outs_93 hC.1 ?_
    rw [if_neg (nI_nlt (by omega) (by omega)), if_pos rfl, (pl_d hp).1, (pl_d hp).2, ← nI_succ]
    refine m_isUp (d := d) hC hw ⟨rfl, ?_⟩
    have nx : ¬ (w = true ∧ ¬ upB s.1 q.toNatClampNeg (nI (p / 64)) (nI (p % 64)) (z - f * nI k) = true) → zt l g (d + 6) M_X8_outs 93 [.ref 164, .int q, zJ, .int z, .int f, .int (nI F), .int c, .int (nI p), .int (zb (upB s.1 q.toNatClampNeg (nI (p / 64)) (nI (p % 64)) (z - f * nI k))), .int (-1), .int (nI (k + 1)), zJ] [] s (zKi K) := by
      intro hn
      refine ih (k + 1) _ (by omega) ?_ ?_
      · rw [Nat.add_sub_cancel]
        exact ⟨fun u => ⟨by omega, u⟩, fun u => u.2⟩
      · intro e
        have : k = F := by omega
        subst this
        unfold ocB
        rw [Bool.and_eq_true, Bool.not_eq_true']
        rintro ⟨u1, u2⟩
        exact hn ⟨hwk.mpr ⟨hF1, u1⟩, by rw [u2]; decide⟩
    by_cases c0 : w = true
    rotate_left
    · rw [if_pos (zb0.mpr c0)]
      exact nx (fun u => c0 u.1)
    rw [if_neg (by rw [zb0]; exact fun u => u c0)]
    by_cases c1 : upB s.1 q.toNatClampNeg (nI (p / 64)) (nI (p % 64)) (z - f * nI k) = true
    · rw [if_pos c1]; exact nx (fun u => u.2 c1)
    · rw [if_neg c1]
      have hw2 := hwk.mp c0
      refine done k (by omega) (nI_N1 (by omega)) ?_ _
      unfold ocB
      rw [Bool.and_eq_true, Bool.not_eq_true']
      constructor
      · intro e
        subst e
        exact ⟨hw2.2, Bool.eq_false_iff.mpr c1⟩
      · rintro ⟨u1, u2⟩
        by_cases e : k = F
        · exact e
        · exact absurd (hm k (F - 1) (by omega) (by omega) u1) c1
theorem m_outs_76 (hC : Core s) (hw : vp_in q 20) {z f : Int32} {F : Nat} (hF1 : 1 ≤ F) (hF : F ≤ 20)
    (hm : ∀ p k j, k ≤ j → j ≤ F → upB s.1 q.toNatClampNeg (nI (p / 64)) (nI (p % 64)) (z - f * nI j) = true → upB s.1 q.toNatClampNeg (nI (p / 64)) (nI (p % 64)) (z - f * nI k) = true) :
    ∀ m p c, p + m = 4096 → K (outC s.1 q.toNatClampNeg (z - f * nI (F - 1)) (z - f * nI F) m p c) s → zt l g (d + 6) M_X8_outs 76 [.ref 164, .int q, zJ, .int z, .int f, .int (nI F), .int c, .int (nI p), zJ, zJ, zJ, zJ] [] s (zKi K) := by
  intro m
  induction m with
  | zero =>
    intro p c hp h
    refine t_X8_outs_76 hC.1 ?_
    rw [if_pos (by rw [ti_le, nI_toInt (by omega), show (4096 : Int32).toInt = 4096 from rfl]; omega)]
    exact h
  | succ m ih =>
    intro p c hp h
    refine t_X8_outs_76 hC.1 ?_
    rw [if_neg (by rw [ti_le, nI_toInt (by omega), show (4096 : Int32).toInt = 4096 from rfl]; omega)]
    exact m_outs_93 (d := d) hC hw (by omega) hF1 hF (hm p) (ih (p + 1) _ (by omega) h) (F + 1) 0 false (by omega) ⟨fun u => absurd u (by decide), fun u => absurd u.1 (by decide)⟩ (fun u => absurd u (by omega))
theorem op_outs {p z f : Int32} {Q : zS → Prop} (hC : Core s) (h1 : Q s) :
    zc l g (d + 6) M_X7_outs [.ref 64, .int q, .int p, .int z, .int f] s (zKi fun r s5 => zc l g (d + 6) M_X8_outs [.ref 164, .int q, .int p, .int z, .int f] s5 (zKi fun r' s10 => r = r' ∧ Q s10)) := by
  have ez : zinr z.toInt64 0 255 = bR 0 255 z := zq1 rfl rfl
  have ef : zinr f.toInt64 0 20 = bR 0 20 f := zq1 rfl rfl
  have ev : ∀ v : Int32, zinr v.toInt64 1 20 = bR 1 20 v := fun v => zq1 rfl rfl
  have hS := hC.2.2.2.2.1
  have h0 : (-1 : Int32) = -1 ∧ Q s := ⟨rfl, h1⟩
  have rej : ¬ (bR 0 ((s.1 164 18).toInt - 1) q = true ∧ bSpan p = true ∧ bR 0 255 z = true ∧ bR 0 20 f = true ∧ bR 1 20 (p % 1000 - p / 1000) = true) → zc l g (d + 6) M_X8_outs [.ref 164, .int q, .int p, .int z, .int f] s (zKi fun r' s10 => (-1 : Int32) = r' ∧ Q s10) := by
    intro hn
    refine t_X8_outs hC.1 (m_isSeer hC.1 hS.1.1 ⟨rfl, ?_⟩)
    by_cases a1 : bR 0 ((s.1 164 18).toInt - 1) q = true
    rotate_left
    · rw [if_neg a1]; exact h0
    rw [if_pos a1]
    refine m_areMinutes hC.1 ⟨rfl, ?_⟩
    by_cases a2 : bSpan p = true
    rotate_left
    · rw [if_neg a2]; exact h0
    rw [if_pos a2, ez, ef]
    by_cases a3 : bR 0 255 z = true
    rotate_left
    · rw [if_neg a3]; exact h0
    rw [if_pos a3]
    by_cases a4 : bR 0 20 f = true
    rotate_left
    · rw [if_neg a4]; exact h0
    rw [if_pos a4]
    intro v5 e5
    subst e5
    rw [ev, if_neg (fun a5 => hn ⟨a1, a2, a3, a4, a5⟩)]
    exact h0
  refine t_X7_outs hC.1 (c_isSeer hC.1 (by rw [hS.2.1]; exact hS.1.1) ⟨rfl, ?_⟩)
  rw [hS.2.1]
  by_cases a1 : bR 0 ((s.1 164 18).toInt - 1) q = true
  rotate_left
  · rw [if_neg a1]; exact rej (fun w => a1 w.1)
  rw [if_pos a1]
  refine c_isSpan hC.1 ⟨rfl, ?_⟩
  by_cases a2 : bSpan p = true
  rotate_left
  · rw [if_neg a2]; exact rej (fun w => a2 w.2.1)
  rw [if_pos a2]
  refine c_isHeight hC.1 ⟨rfl, ?_⟩
  by_cases a3 : bR 0 255 z = true
  rotate_left
  · rw [if_neg a3]; exact rej (fun w => a3 w.2.2.1)
  rw [if_pos a3]
  refine c_isFall hC.1 ⟨rfl, ?_⟩
  by_cases a4 : bR 0 20 f = true
  rotate_left
  · rw [if_neg a4]; exact rej (fun w => a4 w.2.2.2.1)
  rw [if_pos a4]
  intro v9 e9
  by_cases a5 : bR 1 20 v9 = true
  rotate_left
  · have r0 := rej (fun w => a5 (by rw [e9]; exact w.2.2.2.2))
    rw [bR_t] at a5
    by_cases u : v9 < 1
    · rw [if_pos u]; exact r0
    · rw [if_neg u, if_neg (by rw [ti_le]; rw [ti_lt] at u; simp only [til] at u ⊢; omega)]; exact r0
  have b5 := bR_t.mp a5
  have bz := bR_t.mp a3
  have bf := bR_t.mp a4
  rw [if_neg (by rw [ti_lt]; simp only [til]; omega), if_pos (by rw [ti_le]; simp only [til]; omega)]
  obtain ⟨w1, w2⟩ := seN hS a1
  have eF : v9 = nI v9.toNatClampNeg := ti_of (by omega)
  have tF := ti_tn (x := v9) (by omega)
  have hval : ∀ k, k ≤ 20 → (z - f * nI k).toInt = z.toInt - f.toInt * k ∧ 0 ≤ f.toInt * k ∧ f.toInt * k ≤ 400 := by
    intro k hk
    have ek : (nI k).toInt = k := nI_toInt (by omega)
    have n1 : 0 ≤ f.toInt * k := Int.mul_nonneg bf.1 (by omega)
    have n2 : f.toInt * k ≤ 400 := by
      have a : f.toInt * k ≤ 20 * k := Int.mul_le_mul_of_nonneg_right bf.2 (by omega)
      omega
    have em : (f * nI k).toInt = f.toInt * k := by rw [ti_mul (by rw [ek]; omega) (by rw [ek]; omega), ek]
    exact ⟨by rw [ti_sub (by rw [em]; omega) (by rw [em]; omega), em], n1, n2⟩
  have hmono : ∀ p k j, k ≤ j → j ≤ v9.toNatClampNeg → upB s.1 q.toNatClampNeg (nI (p / 64)) (nI (p % 64)) (z - f * nI j) = true → upB s.1 q.toNatClampNeg (nI (p / 64)) (nI (p % 64)) (z - f * nI k) = true := by
    intro p k j hkj hj hu
    have vk := hval k (by omega)
    have vj := hval j (by omega)
    rw [upB_iff hC.2.1 (by omega)] at hu ⊢
    refine upI_m ?_ hu
    have : f.toInt * k ≤ f.toInt * j := Int.mul_le_mul_of_nonneg_left (by omega) bf.1
    omega
  have eA : z - f * v9 + f = z - f * nI (v9.toNatClampNeg - 1) := by
    have v1 := hval v9.toNatClampNeg (by omega)
    have v2 := hval (v9.toNatClampNeg - 1) (by omega)
    rw [← eF] at v1
    have e3 : f.toInt * ((v9.toNatClampNeg - 1 : Nat) : Int) = f.toInt * v9.toNatClampNeg - f.toInt := by
      rw [show ((v9.toNatClampNeg - 1 : Nat) : Int) = (v9.toNatClampNeg : Int) - 1 by omega, Int.mul_sub, Int.mul_one]
    rw [ti_eq, ti_add (by omega) (by omega)]
    omega
  have v1 := hval v9.toNatClampNeg (by omega)
  have v2 := hval (v9.toNatClampNeg - 1) (by omega)
  rw [eA]
  refine c_outs_82 (d := d + 3) hC w2 w1 (by omega) (by rw [eF]; omega) 4096 0 0 (by omega) ?_
  refine t_X8_outs hC.1 (m_isSeer hC.1 hS.1.1 ⟨rfl, ?_⟩)
  rw [if_pos a1]
  refine m_areMinutes hC.1 ⟨rfl, ?_⟩
  rw [if_pos a2, ez, ef, if_pos a3, if_pos a4]
  intro v5 e5
  rw [← e9] at e5
  subst e5
  rw [ev, if_pos a5, eF, nI_clamp (by omega)]
  exact m_outs_76 (d := d) hC w2 (by omega) (by omega) hmono 4096 0 0 (by omega) ⟨rfl, h1⟩
end OTS
