/-! ===== size and count: both sides ===== -/
theorem Core_lk {s s' : zS} (h : zE lkS s s') (hC : Core s) : Core s' := by
  refine Core_k h (fun o j w => by unfold lkS at w; omega) hC (RelF_k hC.2.2.2.2.2.1 (eqM_g (S := lkS) (fun o j w => by unfold lkS at w; unfold gSc; omega) h) ?_ ?_ hC.2.2.2.2.2.2)
  · exact h.2 64 10 (by unfold lkS; omega)
  · intro q hq
    exact ⟨h.2 _ _ (by unfold lkS; omega), h.2 _ _ (by unfold lkS; omega)⟩
theorem lk_f {s s' : zS} (h : zE lkS s s') : zE fS s s' := zE_m h (fun o j w => by unfold lkS at w; unfold fS; omega)
section OSZ
variable {l : Launch} {g : zG} {d : Nat} {s : zS} {p q a b : Int32}
theorem op_size {Q : zS → Prop} (hC : Core s) (h1 : ∀ s', zE fS s s' → Core s' → Q s') :
    zc l g (d + 4) M_X7_size [.ref 64, .int p, .int q, .int a, .int b] s (zKi fun r s5 => zc l g (d + 4) M_X8_size [.ref 164, .int p, .int q, .int a, .int b] s5 (zKi fun r' s10 => r = r' ∧ Q s10)) := by
  have e1 : zinr a.toInt64 1 10000 = bR 1 10000 a := zq1 rfl rfl
  have e2 : zinr b.toInt64 1 10000 = bR 1 10000 b := zq1 rfl rfl
  obtain ⟨t1, t2, t3, t4⟩ := te_g okS_f.2 (zE_r (s := s)) hC
  have hL := hC.2.2.2.2.2.1
  have hT := hC.2.2.2.1
  have hS := hC.2.2.2.2.1
  have hH := hC.2.1
  have rej : ¬ (bR 0 ((s.1 164 24).toInt - 1) p = true ∧ bR 0 ((s.1 164 19).toInt - 1) q = true ∧ bR 1 10000 a = true ∧ bR 1 10000 b = true) → zc l g (d + 4) M_X8_size [.ref 164, .int p, .int q, .int a, .int b] s (zKi fun r' s10 => (-1 : Int32) = r' ∧ Q s10) := by
    intro w
    have h0 : (-1 : Int32) = -1 ∧ Q s := ⟨rfl, h1 s zE_r hC⟩
    refine t_X8_size hC.1 (m_isTelling hC.1 t2 ⟨rfl, ?_⟩)
    by_cases a1 : bR 0 ((s.1 164 24).toInt - 1) p = true
    rotate_left
    · rw [if_neg a1]; exact h0
    rw [if_pos a1]
    refine m_isThing hC.1 hT.1.1 ⟨rfl, ?_⟩
    by_cases a2 : bR 0 ((s.1 164 19).toInt - 1) q = true
    rotate_left
    · rw [if_neg a2]; exact h0
    rw [if_pos a2, e1, e2]
    by_cases a3 : bR 1 10000 a = true
    rotate_left
    · rw [if_neg a3]; exact h0
    rw [if_pos a3, if_neg (fun a4 => w ⟨a1, a2, a3, a4⟩)]; exact h0
  refine t_X7_size hC.1 (c_isTelling hC.1 t1 ⟨rfl, ?_⟩)
  rw [t3]
  by_cases a1 : bR 0 ((s.1 164 24).toInt - 1) p = true
  rotate_left
  · rw [if_neg a1]; exact rej (fun w => a1 w.1)
  rw [if_pos a1]
  refine c_isThing hC.1 (by rw [hT.2.1]; exact hT.1.1) ⟨rfl, ?_⟩
  rw [hT.2.1]
  by_cases a2 : bR 0 ((s.1 164 19).toInt - 1) q = true
  rotate_left
  · rw [if_neg a2]; exact rej (fun w => a2 w.2.1)
  rw [if_pos a2]
  by_cases a3 : bR 1 10000 a = true
  rotate_left
  · have r0 := rej (fun w => a3 w.2.2.1)
    rw [bR_t] at a3
    simp only [ti_lt, ti_le, til, show (10000 : Int32).toInt = 10000 from rfl]
    by_cases u : a.toInt < 1
    · rw [if_pos u]; exact r0
    · rw [if_neg u, if_pos (by omega)]; exact r0
  have b3 := bR_t.mp a3
  have k4 : (10000 : Int32).toInt = 10000 := rfl
  rw [if_neg (by rw [ti_lt]; simp only [til]; omega), if_neg (by rw [ti_lt, k4]; omega)]
  by_cases a4 : bR 1 10000 b = true
  rotate_left
  · have r0 := rej (fun w => a4 w.2.2.2)
    rw [bR_t] at a4
    by_cases u : b < 1
    · rw [if_pos u]; exact r0
    · rw [if_neg u, if_neg (by rw [ti_le, k4]; rw [ti_lt] at u; simp only [til] at u; omega)]; exact r0
  have b4 := bR_t.mp a4
  rw [if_neg (by rw [ti_lt]; simp only [til]; omega), if_pos (by rw [ti_le, k4]; omega)]
  obtain ⟨u1, u2, u3⟩ := teN hL a1
  obtain ⟨v1, v2, v3⟩ := thN hT a2
  have lp := hL.2.2 _ u1
  have ho := hT.2.2.1 _ v1
  obtain ⟨w1, w2⟩ := seN hS lp.2.1
  have sv := RelS_v hS w1
  have nb : ¬ b = 0 := fun e => by rw [e] at b4; exact absurd b4.1 (by decide)
  refine ⟨u3, v3, ?_⟩
  have q1 := rowc_g okS_f.2 (zE_r (s := s)) hC u1 (j := 1) (by decide)
  have q0 := rowc_g okS_f.2 (zE_r (s := s)) hC u1 (j := 0) (by decide)
  rw [q1]
  generalize hr1 : s.1 (183 + p.toNatClampNeg) 1 = r1 at *
  generalize hr0 : s.1 (183 + p.toNatClampNeg) 0 = r0 at *
  have run : ∀ r : Int32, (s.1 172 q.toNatClampNeg = 0 ∨ pIs s.1 q.toNatClampNeg r1 = false → r = -1) → (¬ s.1 172 q.toNatClampNeg = 0 → pIs s.1 q.toNatClampNeg r1 = true → r = (a * (zabs (pX s.1 q.toNatClampNeg r1 - s.1 170 r0.toNatClampNeg) + zabs (pY s.1 q.toNatClampNeg r1 - s.1 171 r0.toNatClampNeg))) / b) → zc l g (d + 4) M_X8_size [.ref 164, .int p, .int q, .int a, .int b] s (zKi fun r' s10 => r = r' ∧ Q s10) := by
    intro r c1 c2
    refine t_X8_size hC.1 (m_isTelling hC.1 t2 ⟨rfl, ?_⟩)
    rw [if_pos a1]
    refine m_isThing hC.1 hT.1.1 ⟨rfl, ?_⟩
    rw [if_pos a2, e1, e2, if_pos a3, if_pos a4]
    refine ⟨v3, ?_⟩
    by_cases k0 : s.1 172 q.toNatClampNeg = 0
    · rw [if_pos k0]; exact ⟨c1 (Or.inl k0), h1 s zE_r hC⟩
    rw [if_neg k0, hr1]
    refine ⟨u3, m_isAt (d := d) hC.1 hH.1 v3 (fun s1 hE hp => ⟨zE_R hE, ?_⟩)⟩
    have hE' := lk_f (lkAt hE)
    have hC' := Core_lk (lkAt hE) hC
    by_cases kI : pIs s.1 q.toNatClampNeg r1 = true
    rotate_left
    · rw [if_neg kI]; exact ⟨c1 (Or.inr (Bool.eq_false_iff.mpr kI)), h1 s1 hE' hC'⟩
    rw [if_pos kI]
    obtain ⟨x1, x2, -⟩ := hp kI
    refine ⟨u3, ?_⟩
    intro v10 e10
    rw [row_g okS_f.2 hE' u2, hr0] at e10
    subst e10
    rw [x1, x2, show s1.1 170 v10.toNatClampNeg = s.1 170 v10.toNatClampNeg from hE.2 _ _ (by simp [atS]), show s1.1 171 v10.toNatClampNeg = s.1 171 v10.toNatClampNeg from hE.2 _ _ (by simp [atS])]
    exact ⟨w2, w2, nb, c2 k0 kI, h1 s1 hE' hC'⟩
  refine c_isThere (d := d + 2) hC.1 hH v2 ho (by rw [← hr1]; exact lp.2.2.1) ⟨rfl, ?_⟩
  by_cases k0 : s.1 172 q.toNatClampNeg = 0
  · rw [decide_eq_true k0, Bool.not_true, Bool.false_and, if_neg (by decide)]
    exact run _ (fun _ => rfl) (fun w => absurd k0 w)
  rw [decide_eq_false k0, Bool.not_false, Bool.true_and]
  by_cases kI : pIs s.1 q.toNatClampNeg r1 = true
  rotate_left
  · rw [if_neg kI]
    exact run _ (fun _ => rfl) (fun _ w => absurd w kI)
  rw [if_pos kI, q0, q1]
  refine ⟨w2, ?_⟩
  intro v10 e10
  subst e10
  refine c_xIn (d := d + 2) hC.1 v2 ho k0 ⟨rfl, ?_⟩
  rw [q1]
  refine c_yIn (d := d + 2) hC.1 v2 ho k0 ⟨rfl, ?_⟩
  intro v15 e15
  subst e15
  rw [sv.2.2.2.2.1, sv.2.2.2.2.2.1]
  exact ⟨nb, run _ (fun w => by rcases w with w | w; exact absurd w k0; rw [kI] at w; cases w) (fun _ _ => rfl)⟩
theorem op_count {Q : zS → Prop} {rn : Nat} (hC : Core s) (hX : RelX s.1) (hrn : s.2.2.1 64 15 = rn) (hrb : rn = 79 ∨ rn = 85) (hq : s.1 rn 5 = s.1 257 0) (h1 : Q s) :
    zc l g d M_X7_count [.ref 64, .int p] s (zKi fun r s5 => zc l g d M_X8_count [.ref 164, .int p] s5 (zKi fun r' s10 => r = r' ∧ Q s10)) := by
  refine t_X7_count hC.1 hrn hrb ?_
  rw [hq, hC.2.1.2.1, hC.2.2.2.2.1.2.1, hC.2.2.2.1.2.1, hC.2.2.2.2.2.1.2.1, hC.2.2.1.1, hC.2.2.1.2.1, hX.2.1]
  have run : ∀ r : Int32, (if p = 0 then r = s.1 164 17 else if p = 1 then r = s.1 164 18 else if p = 2 then r = s.1 164 19 else if p = 3 then r = s.1 164 24 else if p = 4 then r = s.1 257 0 else if p = 5 then r = s.1 164 25 else if p = 6 then r = s.1 164 26 else if p = 7 then r = s.1 164 29 else r = -1) → zc l g d M_X8_count [.ref 164, .int p] s (zKi fun r' s10 => r = r' ∧ Q s10) := by
    intro r c
    refine t_X8_count hC.1 ?_
    by_cases w0 : p = 0
    · rw [if_pos w0] at c ⊢; exact ⟨c, h1⟩
    rw [if_neg w0] at c ⊢
    by_cases w1 : p = 1
    · rw [if_pos w1] at c ⊢; exact ⟨c, h1⟩
    rw [if_neg w1] at c ⊢
    by_cases w2 : p = 2
    · rw [if_pos w2] at c ⊢; exact ⟨c, h1⟩
    rw [if_neg w2] at c ⊢
    by_cases w3 : p = 3
    · rw [if_pos w3] at c ⊢; exact ⟨c, h1⟩
    rw [if_neg w3] at c ⊢
    by_cases w4 : p = 4
    · rw [if_pos w4] at c ⊢; exact ⟨c, h1⟩
    rw [if_neg w4] at c ⊢
    by_cases w5 : p = 5
    · rw [if_pos w5] at c ⊢; exact ⟨c, h1⟩
    rw [if_neg w5] at c ⊢
    by_cases w6 : p = 6
    · rw [if_pos w6] at c ⊢; exact ⟨c, h1⟩
    rw [if_neg w6] at c ⊢
    by_cases w7 : p = 7
    · rw [if_pos w7] at c ⊢; exact ⟨c, h1⟩
    rw [if_neg w7] at c ⊢; exact ⟨c, h1⟩
  by_cases w0 : p = 0
  · rw [if_pos w0]; exact run _ (by rw [if_pos w0])
  rw [if_neg w0]
  by_cases w1 : p = 1
  · rw [if_pos w1]; exact run _ (by rw [if_neg w0, if_pos w1])
  rw [if_neg w1]
  by_cases w2 : p = 2
  · rw [if_pos w2]; exact run _ (by rw [if_neg w0, if_neg w1, if_pos w2])
  rw [if_neg w2]
  by_cases w3 : p = 3
  · rw [if_pos w3]; exact run _ (by rw [if_neg w0, if_neg w1, if_neg w2, if_pos w3])
  rw [if_neg w3]
  by_cases w4 : p = 4
  · rw [if_pos w4]; exact run _ (by rw [if_neg w0, if_neg w1, if_neg w2, if_neg w3, if_pos w4])
  rw [if_neg w4]
  by_cases w5 : p = 5
  · rw [if_pos w5]; exact run _ (by rw [if_neg w0, if_neg w1, if_neg w2, if_neg w3, if_neg w4, if_pos w5])
  rw [if_neg w5]
  by_cases w6 : p = 6
  · rw [if_pos w6]; exact run _ (by rw [if_neg w0, if_neg w1, if_neg w2, if_neg w3, if_neg w4, if_neg w5, if_pos w6])
  rw [if_neg w6]
  by_cases w7 : p = 7
  · rw [if_pos w7]; exact run _ (by rw [if_neg w0, if_neg w1, if_neg w2, if_neg w3, if_neg w4, if_neg w5, if_neg w6, if_pos w7])
  rw [if_neg w7]; exact run _ (by rw [if_neg w0, if_neg w1, if_neg w2, if_neg w3, if_neg w4, if_neg w5, if_neg w6, if_neg w7])
end OSZ
