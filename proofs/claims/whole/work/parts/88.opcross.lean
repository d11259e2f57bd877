/-! ===== cross: both sides ===== -/
def w74 : Nat → Nat → Prop := fun o _ => o = 74
theorem w74_g : ∀ o j, w74 o j → gSc o j := fun o j w => by unfold w74 at w; unfold gSc; omega
theorem Core_74 {s s' : zS} (h : zE w74 s s') (hC : Core s) : Core s' := Core_w (S := w74) (fun o j w => by unfold w74 at w; omega) h hC
theorem mG_e {I I' : zM2} (h : eqM I I') (x y : Int32) : mG I' x y = mG I x y := mG_c (fun o a b k => h o k (by unfold mS; omega)) (h 164 17 (by simp [mS])) x y
theorem crP_c {I I' : zM2} (h : eqM I I') {o : Nat} (h1 : 183 ≤ o) (h2 : o < 243) (x y : Int32) : crP I' o x y = crP I o x y := by
  have eo : ∀ j, I' o j = I o j := fun j => h o j (by unfold mS; omega)
  unfold crP
  rw [eo, eo, h 170 _ (by simp [mS]), h 171 _ (by simp [mS]), h 164 25 (by simp [mS])]
theorem slK_c {I I' : zM2} (h : eqM I I') {o : Nat} (h1 : 183 ≤ o) (h2 : o < 243) (x y z : Int32) : slK I' o x y z = slK I o x y z := by
  have eo : ∀ j, I' o j = I o j := fun j => h o j (by unfold mS; omega)
  unfold slK
  rw [eo, eo, h 170 _ (by simp [mS]), h 171 _ (by simp [mS]), h 164 26 (by simp [mS]), mG_e h]
theorem hhL_c {I I' : zM2} (h : eqM I I') {o q : Nat} (h1 : 183 ≤ o) (h2 : o < 243) (h3 : 183 ≤ q) (h4 : q < 243) (x y : Int32) : ∀ m z, hhL I' o q x y m z = hhL I o q x y m z := by
  intro m
  induction m with
  | zero => intro z; rfl
  | succ m ih => intro z; unfold hhL; rw [slK_c h h1 h2, slK_c h h3 h4, ih]
theorem crL_c {I I' : zM2} (h : eqM I I') {o q : Nat} (h1 : 183 ≤ o) (h2 : o < 243) (h3 : 183 ≤ q) (h4 : q < 243) : ∀ m p st, crL I' o q m p st = crL I o q m p st := by
  intro m
  induction m with
  | zero => intro p st; rfl
  | succ m ih => intro p st; unfold crL; rw [crP_c h h1 h2, crP_c h h3 h4, hhL_c h h1 h2 h3 h4, ih]
section OC
variable {l : Launch} {g : zG} {d : Nat} {s0 : zS} {a b : Nat} {w : Int32} {K : Int32 → zS → Prop}
theorem c_part {s : zS} (hR : zRok s) {st : Nat → Int32} (hst : ∀ j, j < 6 → s.1 74 j = st j) (h : K (crR w st) s) : zc l g d M_X0_part [.ref 74, .int w] s (zKi K) := by
  refine t_X0_part hR ?_
  rw [hst 0 (by decide), hst 1 (by decide), hst 2 (by decide), hst 3 (by decide), hst 4 (by decide), hst 5 (by decide)]
  unfold crR at h
  by_cases c0 : st 0 = 0
  · rw [if_pos c0] at h ⊢; exact h
  rw [if_neg c0] at h ⊢
  by_cases w0 : w = 0
  · rw [if_pos w0] at h ⊢; exact h
  rw [if_neg w0] at h ⊢
  by_cases w1 : w = 1
  · rw [if_pos w1] at h ⊢; exact h
  rw [if_neg w1] at h ⊢
  by_cases w2 : w = 2
  · rw [if_pos w2] at h ⊢; exact h
  rw [if_neg w2] at h ⊢
  by_cases w3 : w = 3
  · rw [if_pos w3] at h ⊢; exact h
  rw [if_neg w3] at h ⊢
  by_cases w4 : w = 4
  · rw [if_pos w4] at h ⊢; exact h
  rw [if_neg w4] at h ⊢
  by_cases w5 : w = 5
  · rw [if_pos w5] at h ⊢; exact h
  rw [if_neg w5] at h ⊢; exact h
theorem c_cross_72 (ha : a < nK s0.1) (hb : b < nK s0.1) {r0 : Nat → Int32} (hK : ∀ s', zE w74 s0 s' → Core s' → K (crR w r0) s') :
    ∀ m p st s, p + m = 4096 → zE w74 s0 s → Core s → (∀ j, j < 6 → s.1 74 j = st j) → crL s0.1 (183 + a) (183 + b) m p st = r0 →
    zt l g (d + 4) M_X7_cross 72 [.ref 64, zJ, zJ, .int w, .ref (104 + a), .ref (104 + b), .int (nI p)] [] s (zKi K) := by
  intro m
  induction m with
  | zero =>
    intro p st s hp hE hC hst he
    have n60 := (Core_c7 hC).2.2
    have nk := (nK_g w74_g hE).1
    refine t_X7_cross_72 hC.1 (by omega) (by omega) ?_
    rw [if_pos (by rw [ti_le, nI_toInt (by omega), show (4096 : Int32).toInt = 4096 from rfl]; omega)]
    have he2 : st = r0 := he
    exact c_part (K := fun r s1 => s1.2.2.1 = s.2.2.1 ∧ K r s1) hC.1 hst ⟨rfl, by rw [he2]; exact hK s hE hC⟩
  | succ m ih =>
    intro p st s hp hE hC hst he
    have n60 := (Core_c7 hC).2.2
    have nk := (nK_g w74_g hE).1
    have hM := eqM_g w74_g hE
    have ka := crP_c hM (o := 183 + a) (by omega) (by omega) (nI (p / 64)) (nI (p % 64))
    have kb := crP_c hM (o := 183 + b) (by omega) (by omega) (nI (p / 64)) (nI (p % 64))
    have kh := hhL_c hM (o := 183 + a) (q := 183 + b) (by omega) (by omega) (by omega) (by omega) (nI (p / 64)) (nI (p % 64)) 256 0
    refine t_X7_cross_72 hC.1 (by omega) (by omega) ?_
    rw [if_neg (by rw [ti_le, nI_toInt (by omega), show (4096 : Int32).toInt = 4096 from rfl]; omega), ← nI_succ]
    unfold crL at he
    refine c_pointsAt (d := d + 1) hC (show a < nK s.1 by omega) (by omega) ⟨rfl, ?_⟩
    rw [ka]
    by_cases c1 : crP s0.1 (183 + a) (nI (p / 64)) (nI (p % 64)) = true
    rotate_left
    · rw [if_neg c1]
      rw [Bool.eq_false_iff.mpr c1, Bool.false_and, if_neg (by decide)] at he
      exact ih (p + 1) st s (by omega) hE hC hst he
    rw [if_pos c1]
    rw [c1, Bool.true_and] at he
    refine c_pointsAt (d := d + 1) hC (show b < nK s.1 by omega) (by omega) ⟨rfl, ?_⟩
    rw [kb]
    by_cases c2 : crP s0.1 (183 + b) (nI (p / 64)) (nI (p % 64)) = true
    rotate_left
    · rw [if_neg c2]
      rw [if_neg c2] at he
      exact ih (p + 1) st s (by omega) hE hC hst he
    rw [if_pos c2]
    rw [if_pos c2] at he
    refine c_share (d := d) hC (show a < nK s.1 by omega) (show b < nK s.1 by omega) (by omega) (by rw [ka]; exact c1) (by rw [kb]; exact c2) ⟨rfl, ?_⟩
    rw [kh]
    refine t_X0_add (d := d + 2) hC.1 ?_
    rw [(pl_d (show p < 4096 by omega)).1, (pl_d (show p < 4096 by omega)).2]
    have fin : ∀ (h : Bool) (s' : zS), zE w74 s s' → (∀ j, j < 6 → s'.1 74 j = crS h (nI (p / 64)) (nI (p % 64)) st j) → crL s0.1 (183 + a) (183 + b) m (p + 1) (crS h (nI (p / 64)) (nI (p % 64)) st) = r0 → s'.2.2.1 = s.2.2.1 ∧ zt l g (d + 4) M_X7_cross 72 [.ref 64, zJ, zJ, .int w, .ref (104 + a), .ref (104 + b), .int (nI (p + 1))] [] s' (zKi K) :=
      fun h s' hE' hs' he' => ⟨zE_R hE', ih (p + 1) _ s' (by omega) (zE_t hE hE') (Core_74 hE' hC) hs' he'⟩
    have s0e := hst 0 (by decide)
    have s1e := hst 1 (by decide)
    have s2e := hst 2 (by decide)
    have s3e := hst 3 (by decide)
    have s4e := hst 4 (by decide)
    have s5e := hst 5 (by decide)
    by_cases c3 : hhL s0.1 (183 + a) (183 + b) (nI (p / 64)) (nI (p % 64)) 256 0 = true
    · rw [if_pos c3]
      rw [c3] at he
      refine fin true _ (zE_i (zE_i (zE_i (zE_i (zE_i (zE_i0 (S := w74) rfl) rfl) rfl) rfl) rfl) rfl) (fun j hj => ?_) he
      rcases (show j = 0 ∨ j = 1 ∨ j = 2 ∨ j = 3 ∨ j = 4 ∨ j = 5 by omega) with rfl | rfl | rfl | rfl | rfl | rfl <;> simp [zI_1, crS, s0e, s1e, s2e, s3e, s4e, s5e]
    · rw [if_neg c3]
      rw [Bool.eq_false_iff.mpr c3] at he
      refine fin false _ (zE_i (zE_i (zE_i (zE_i (zE_i (zE_i0 (S := w74) rfl) rfl) rfl) rfl) rfl) rfl) (fun j hj => ?_) he
      rcases (show j = 0 ∨ j = 1 ∨ j = 2 ∨ j = 3 ∨ j = 4 ∨ j = 5 by omega) with rfl | rfl | rfl | rfl | rfl | rfl <;> simp [zI_1, crS, s0e, s1e, s2e, s3e, s4e, s5e]
end OC
section OC2
variable {l : Launch} {g : zG} {d : Nat} {s : zS} {p q w : Int32}
theorem op_cross {Q : zS → Prop} (hC : Core s) (h1 : ∀ s', zE w74 s s' → Core s' → Q s') :
    zc l g (d + 6) M_X7_cross [.ref 64, .int p, .int q, .int w] s (zKi fun r s5 => zc l g (d + 6) M_X8_cross [.ref 164, .int p, .int q, .int w] s5 (zKi fun r' s10 => r = r' ∧ Q s10)) := by
  have ew : zinr w.toInt64 0 5 = bR 0 5 w := zq1 rfl rfl
  obtain ⟨t1, t2, t3, t4⟩ := te_g okS_f.2 (zE_r (s := s)) hC
  have hL := hC.2.2.2.2.2.1
  -- the reference, when it refuses or finds none
  have rej : ∀ s1, zE w74 s s1 → Core s1 → ¬ (bR 0 ((s.1 164 24).toInt - 1) p = true ∧ bR 0 ((s.1 164 24).toInt - 1) q = true ∧ bR 0 5 w = true ∧ ¬ s.1 (183 + p.toNatClampNeg) 0 = s.1 (183 + q.toNatClampNeg) 0 ∧ s.1 (183 + p.toNatClampNeg) 1 = s.1 (183 + q.toNatClampNeg) 1) → zc l g (d + 6) M_X8_cross [.ref 164, .int p, .int q, .int w] s1 (zKi fun r' s10 => (-1 : Int32) = r' ∧ Q s10) := by
    intro s1 hE hC1 hn
    have h0 : (-1 : Int32) = -1 ∧ Q s1 := ⟨rfl, h1 s1 hE hC1⟩
    have e24 := (nK_g w74_g hE).2
    have hL1 := hC1.2.2.2.2.2.1
    refine t_X8_cross hC1.1 (m_isTelling hC1.1 (by rw [e24]; exact t2) ⟨rfl, ?_⟩)
    rw [e24]
    by_cases a1 : bR 0 ((s.1 164 24).toInt - 1) p = true
    rotate_left
    · rw [if_neg a1]; exact h0
    rw [if_pos a1]
    refine m_isTelling hC1.1 (by rw [e24]; exact t2) ⟨rfl, ?_⟩
    rw [e24]
    by_cases a2 : bR 0 ((s.1 164 24).toInt - 1) q = true
    rotate_left
    · rw [if_neg a2]; exact h0
    rw [if_pos a2, ew]
    by_cases a3 : bR 0 5 w = true
    rotate_left
    · rw [if_neg a3]; exact h0
    rw [if_pos a3]
    obtain ⟨u1, u2, u3⟩ := teN hL a1
    obtain ⟨v1, v2, v3⟩ := teN hL a2
    rw [row_g w74_g hE u2, row_g w74_g hE v2, row_g w74_g hE u2, row_g w74_g hE v2]
    refine ⟨u3, v3, ?_⟩
    by_cases c0 : s.1 (183 + p.toNatClampNeg) 0 = s.1 (183 + q.toNatClampNeg) 0
    · rw [if_pos c0]; exact h0
    rw [if_neg c0, if_neg (fun c1 => hn ⟨a1, a2, a3, c0, c1⟩)]; exact h0
  refine t_X7_cross hC.1 (c_isTelling hC.1 t1 ⟨rfl, ?_⟩)
  rw [t3]
  by_cases a1 : bR 0 ((s.1 164 24).toInt - 1) p = true
  rotate_left
  · rw [if_neg a1]; exact rej s zE_r hC (fun z => a1 z.1)
  rw [if_pos a1]
  refine c_isTelling hC.1 t1 ⟨rfl, ?_⟩
  rw [t3]
  by_cases a2 : bR 0 ((s.1 164 24).toInt - 1) q = true
  rotate_left
  · rw [if_neg a2]; exact rej s zE_r hC (fun z => a2 z.2.1)
  rw [if_pos a2]
  obtain ⟨u1, u2, u3⟩ := teN hL a1
  obtain ⟨v1, v2, v3⟩ := teN hL a2
  rw [rowc_g okS_f.2 (zE_r (s := s)) hC u1 (by decide), rowc_g okS_f.2 (zE_r (s := s)) hC v1 (by decide), rowc_g okS_f.2 (zE_r (s := s)) hC u1 (by decide), rowc_g okS_f.2 (zE_r (s := s)) hC v1 (by decide)]
  refine ⟨u3, v3, ?_⟩
  by_cases c0 : s.1 (183 + p.toNatClampNeg) 0 = s.1 (183 + q.toNatClampNeg) 0
  · rw [if_pos c0]; exact rej s zE_r hC (fun z => z.2.2.2.1 c0)
  rw [if_neg c0]
  by_cases c1 : s.1 (183 + p.toNatClampNeg) 1 = s.1 (183 + q.toNatClampNeg) 1
  rotate_left
  · rw [if_neg c1]; exact rej s zE_r hC (fun z => c1 z.2.2.2.2)
  rw [if_pos c1]
  have zE2 : zE w74 s (zI (zI (zI (zI (zI (zI s 74 0 (0)) 74 1 (0)) 74 2 (64)) 74 3 (-1)) 74 4 (64)) 74 5 (-1)) := zE_i (zE_i (zE_i (zE_i (zE_i (zE_i0 (S := w74) rfl) rfl) rfl) rfl) rfl) rfl
  refine t_X0_clear hC.1 ⟨rfl, ?_⟩
  refine c_cross_72 (s0 := s) (d := d + 2) u1 v1 (fun s1 hE hC1 => ?_) 4096 0 cr0 _ (by omega) zE2 (Core_74 zE2 hC) (fun j hj => ?_) rfl
  rotate_left
  · rcases (show j = 0 ∨ j = 1 ∨ j = 2 ∨ j = 3 ∨ j = 4 ∨ j = 5 by omega) with rfl | rfl | rfl | rfl | rfl | rfl <;> simp [zI_1, cr0]
  by_cases a3 : bR 0 5 w = true
  rotate_left
  · have er : crR w (crL s.1 (183 + p.toNatClampNeg) (183 + q.toNatClampNeg) 4096 0 cr0) = -1 := by
      rw [bR_t] at a3
      unfold crR
      split
      · rfl
      · simp only [ti_eq, til]
        rw [if_neg (by omega), if_neg (by omega), if_neg (by omega), if_neg (by omega), if_neg (by omega), if_neg (by omega)]
        rfl
    rw [er]
    exact rej s1 hE hC1 (fun z => a3 z.2.2.1)
  have e24 := (nK_g w74_g hE).2
  have nk := (nK_g w74_g hE).1
  have hM := eqM_g w74_g hE
  refine t_X8_cross hC1.1 (m_isTelling hC1.1 (by rw [e24]; exact t2) ⟨rfl, ?_⟩)
  rw [e24, if_pos a1]
  refine m_isTelling hC1.1 (by rw [e24]; exact t2) ⟨rfl, ?_⟩
  rw [e24, if_pos a2, ew, if_pos a3, row_g w74_g hE u2, row_g w74_g hE v2, row_g w74_g hE u2, row_g w74_g hE v2, if_neg c0, if_pos c1]
  refine ⟨u3, v3, ?_⟩
  refine t_X8_cross_93 hC1.1 (by omega) (by omega) ?_
  rw [if_neg (by decide)]
  refine m_cross_103 (d := d) hC1 (a := p.toNatClampNeg) (b := q.toNatClampNeg) (by omega) (by omega) a3 4095 0 cr0 (by omega) ?_
  rw [crL_c hM (by omega) (by omega) (by omega) (by omega)]
  exact ⟨rfl, h1 s1 hE hC1⟩
end OC2
