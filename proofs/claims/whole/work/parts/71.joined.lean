/-! ===== joined: both sides ===== -/
def jF (a b : Int32) : Int32 := if a &&& b = 0 then (if a = 0 then 0 else if b = 0 then 0 else 1) else 2
def joinF (I : zM2) (a b : Nat) : Int32 := if I (183 + a) 0 = I (183 + b) 0 then -1 else if zmax (I (183 + a) 1) (I (183 + b) 1) ≤ zmin (I (183 + a) 2) (I (183 + b) 2) then jF (fitF I a) (fitF I b) else -1
theorem row_g {s0 s : zS} {S : Nat → Nat → Prop} (hS : ∀ o j, S o j → gSc o j) (hE : zE S s0 s) {k j : Nat} (hk : k < 60) : s.1 (183 + k) j = s0.1 (183 + k) j :=
  eqM_g hS hE _ _ (by unfold mS; omega)
theorem rowc_g {s0 s : zS} {S : Nat → Nat → Prop} (hS : ∀ o j, S o j → gSc o j) (hE : zE S s0 s) (hC : Core s) {k j : Nat} (hk : k < nK s0.1) (hj : j < 9) : s.1 (104 + k) j = s0.1 (183 + k) j := by
  have n := nK_g hS hE
  have n60 := (Core_c7 hC).2.2
  rw [← row_g hS hE (show k < 60 by omega)]
  exact (hC.2.2.2.2.2.1.2.2 k (by omega)).1 j hj
theorem te_g {s0 s : zS} {S : Nat → Nat → Prop} (hS : ∀ o j, S o j → gSc o j) (hE : zE S s0 s) (hC : Core s) : 0 ≤ (s.1 64 7).toInt ∧ 0 ≤ (s.1 164 24).toInt ∧ s.1 64 7 = s0.1 164 24 ∧ s.1 164 24 = s0.1 164 24 := by
  have hL := hC.2.2.2.2.2.1
  have e := (nK_g hS hE).2
  exact ⟨by rw [hL.2.1]; exact hL.1.1, hL.1.1, by rw [hL.2.1, e], e⟩
section OJ
variable {l : Launch} {g : zG} {d : Nat} {s s0 : zS} {p q : Int32} {K : Int32 → zS → Prop}
theorem c_joined (hE : zE fS s0 s) (hC : Core s) (h1 : ¬ (bR 0 ((s0.1 164 24).toInt - 1) p = true ∧ bR 0 ((s0.1 164 24).toInt - 1) q = true) → K (-1) s)
    (h2 : bR 0 ((s0.1 164 24).toInt - 1) p = true → bR 0 ((s0.1 164 24).toInt - 1) q = true → ∀ s', zE fS s0 s' → Core s' → K (joinF s0.1 p.toNatClampNeg q.toNatClampNeg) s') :
    zc l g (d + 8) M_X7_joined [.ref 64, .int p, .int q] s (zKi K) := by
  obtain ⟨t1, -, t3, t4⟩ := te_g okS_f.2 hE hC
  have hL := hC.2.2.2.2.2.1
  refine t_X7_joined hC.1 (c_isTelling hC.1 t1 ⟨rfl, ?_⟩)
  rw [t3]
  by_cases a1 : bR 0 ((s0.1 164 24).toInt - 1) p = true
  rotate_left
  · rw [if_neg a1]; exact h1 (fun w => a1 w.1)
  rw [if_pos a1]
  refine c_isTelling hC.1 t1 ⟨rfl, ?_⟩
  rw [t3]
  by_cases a2 : bR 0 ((s0.1 164 24).toInt - 1) q = true
  rotate_left
  · rw [if_neg a2]; exact h1 (fun w => a2 w.2)
  rw [if_pos a2]
  have h3 := h2 a1 a2
  obtain ⟨u1, u2, u3⟩ := teN hL (by rw [t4]; exact a1)
  obtain ⟨v1, v2, v3⟩ := teN hL (by rw [t4]; exact a2)
  have n := (nK_g okS_f.2 hE).1
  rw [n] at u1 v1
  have lp := hL.2.2 _ (show p.toNatClampNeg < nK s.1 by omega)
  have lq := hL.2.2 _ (show q.toNatClampNeg < nK s.1 by omega)
  unfold lOK at lp lq
  rw [row_g okS_f.2 hE u2, row_g okS_f.2 hE u2, row_g okS_f.2 hE u2] at lp
  rw [row_g okS_f.2 hE v2, row_g okS_f.2 hE v2, row_g okS_f.2 hE v2] at lq
  refine ⟨u3, v3, ?_⟩
  rw [rowc_g okS_f.2 hE hC u1 (by decide), rowc_g okS_f.2 hE hC v1 (by decide), rowc_g okS_f.2 hE hC u1 (by decide), rowc_g okS_f.2 hE hC v1 (by decide), rowc_g okS_f.2 hE hC u1 (by decide), rowc_g okS_f.2 hE hC v1 (by decide)]
  unfold joinF at h3
  generalize s0.1 (183 + p.toNatClampNeg) 0 = a0 at *
  generalize s0.1 (183 + q.toNatClampNeg) 0 = b0 at *
  generalize s0.1 (183 + p.toNatClampNeg) 1 = af at *
  generalize s0.1 (183 + q.toNatClampNeg) 1 = bf at *
  generalize s0.1 (183 + p.toNatClampNeg) 2 = al at *
  generalize s0.1 (183 + q.toNatClampNeg) 2 = bl at *
  have w1 := lp.2.2.2.2.1
  have w2 := lq.2.2.2.2.1
  by_cases c0 : a0 = b0
  · rw [if_pos c0] at h3 ⊢; exact h3 s hE hC
  rw [if_neg c0] at h3 ⊢
  have no : ¬ zmax af bf ≤ zmin al bl → K (-1) s := fun w => by rw [if_neg w] at h3; exact h3 s hE hC
  by_cases c1 : bl < af
  · rw [if_pos c1]
    exact no (by rw [ti_le, zmax_i, zmin_i]; rw [ti_lt] at c1; omega)
  rw [if_neg c1]
  by_cases c2 : bf ≤ al
  rotate_left
  · rw [if_neg c2]
    exact no (by rw [ti_le, zmax_i, zmin_i]; rw [ti_le] at c2; omega)
  rw [if_pos c2]
  rw [if_pos (by rw [ti_le, zmax_i, zmin_i]; rw [ti_lt] at c1; rw [ti_le] at c2; omega)] at h3
  refine c_fitG (d := d + 1) okS_f hE hC u1 (fun s1 hE1 hE01 hC1 => ⟨zE_R hE1, ?_⟩)
  refine c_fitG (d := d + 1) okS_f hE01 hC1 v1 (fun s2 hE2 hE02 hC2 => ⟨zE_R hE2, ?_⟩)
  have h4 := h3 s2 hE02 hC2
  unfold jF at h4
  generalize fitF s0.1 p.toNatClampNeg = fa at *
  generalize fitF s0.1 q.toNatClampNeg = fb at *
  by_cases c3 : fa = 0
  · rw [if_pos c3]
    rw [c3, Int32.zero_and, if_pos rfl, if_pos rfl] at h4; exact h4
  rw [if_neg c3]
  by_cases c4 : fb = 0
  · rw [if_pos c4]
    rw [c4, Int32.and_zero, if_pos rfl, if_pos rfl, if_neg c3] at h4; exact h4
  rw [if_neg c4]
  rw [if_neg c3, if_neg c4] at h4
  by_cases c5 : fa &&& fb = 0
  · rw [if_pos c5] at h4 ⊢; exact h4
  · rw [if_neg c5] at h4 ⊢; exact h4
theorem m_joined (hE : zE fS s0 s) (hC : Core s) (h1 : ¬ (bR 0 ((s0.1 164 24).toInt - 1) p = true ∧ bR 0 ((s0.1 164 24).toInt - 1) q = true) → K (-1) s)
    (h2 : bR 0 ((s0.1 164 24).toInt - 1) p = true → bR 0 ((s0.1 164 24).toInt - 1) q = true → ∀ s', zE fS s0 s' → Core s' → K (joinF s0.1 p.toNatClampNeg q.toNatClampNeg) s') :
    zc l g (d + 8) M_X8_joined [.ref 164, .int p, .int q] s (zKi K) := by
  obtain ⟨-, t1, t3, t4⟩ := te_g okS_f.2 hE hC
  have hL := hC.2.2.2.2.2.1
  refine t_X8_joined hC.1 (m_isTelling hC.1 t1 ⟨rfl, ?_⟩)
  rw [t4]
  by_cases a1 : bR 0 ((s0.1 164 24).toInt - 1) p = true
  rotate_left
  · rw [if_neg a1]; exact h1 (fun w => a1 w.1)
  rw [if_pos a1]
  refine m_isTelling hC.1 t1 ⟨rfl, ?_⟩
  rw [t4]
  by_cases a2 : bR 0 ((s0.1 164 24).toInt - 1) q = true
  rotate_left
  · rw [if_neg a2]; exact h1 (fun w => a2 w.2)
  rw [if_pos a2]
  have h3 := h2 a1 a2
  obtain ⟨u1, u2, u3⟩ := teN hL (by rw [t4]; exact a1)
  obtain ⟨v1, v2, v3⟩ := teN hL (by rw [t4]; exact a2)
  have n := (nK_g okS_f.2 hE).1
  rw [n] at u1 v1
  refine ⟨u3, v3, ?_⟩
  rw [row_g okS_f.2 hE u2, row_g okS_f.2 hE v2, row_g okS_f.2 hE u2, row_g okS_f.2 hE v2, row_g okS_f.2 hE u2, row_g okS_f.2 hE v2]
  unfold joinF at h3
  by_cases c0 : s0.1 (183 + p.toNatClampNeg) 0 = s0.1 (183 + q.toNatClampNeg) 0
  · rw [if_pos c0] at h3 ⊢; exact h3 s hE hC
  rw [if_neg c0] at h3 ⊢
  refine ⟨u3, v3, u3, v3, ?_⟩
  by_cases c1 : zmax (s0.1 (183 + p.toNatClampNeg) 1) (s0.1 (183 + q.toNatClampNeg) 1) ≤ zmin (s0.1 (183 + p.toNatClampNeg) 2) (s0.1 (183 + q.toNatClampNeg) 2)
  rotate_left
  · rw [if_neg c1] at h3 ⊢; exact h3 s hE hC
  rw [if_pos c1] at h3 ⊢
  refine m_fitG (d := d) okS_f hE hC u3 rfl u1 (fun s1 hE1 hE01 hC1 => ⟨zE_R hE1, ?_⟩)
  refine m_fitG (d := d) okS_f hE01 hC1 v3 rfl v1 (fun s2 hE2 hE02 hC2 => ⟨zE_R hE2, ?_⟩)
  have h4 := h3 s2 hE02 hC2
  unfold jF at h4
  by_cases c3 : fitF s0.1 p.toNatClampNeg &&& fitF s0.1 q.toNatClampNeg = 0
  · rw [if_pos c3] at h4 ⊢
    by_cases c4 : fitF s0.1 p.toNatClampNeg = 0
    · rw [if_pos c4] at h4 ⊢; exact h4
    rw [if_neg c4] at h4 ⊢
    by_cases c5 : fitF s0.1 q.toNatClampNeg = 0
    · rw [if_pos c5] at h4 ⊢; exact h4
    rw [if_neg c5] at h4 ⊢; exact h4
  · rw [if_neg c3] at h4 ⊢; exact h4
end OJ
section OJ2
variable {l : Launch} {g : zG} {d : Nat} {s : zS} {p q : Int32}
theorem op_joined {Q : zS → Prop} (hC : Core s) (h1 : ∀ s', zE fS s s' → Core s' → Q s') :
    zc l g (d + 8) M_X7_joined [.ref 64, .int p, .int q] s (zKi fun r s5 => zc l g (d + 8) M_X8_joined [.ref 164, .int p, .int q] s5 (zKi fun r' s10 => r = r' ∧ Q s10)) := by
  refine c_joined (s0 := s) zE_r hC (fun w => ?_) (fun a1 a2 s1 hE1 hC1 => ?_)
  · exact m_joined (s0 := s) zE_r hC (fun _ => ⟨rfl, h1 s zE_r hC⟩) (fun b1 b2 => absurd ⟨b1, b2⟩ w)
  · exact m_joined (s0 := s) hE1 hC1 (fun w => absurd ⟨a1, a2⟩ w) (fun _ _ s2 hE2 hC2 => ⟨rfl, h1 s2 hE2 hC2⟩)
end OJ2
