/-! ===== tell, undo, off, telling: both sides ===== -/
def F_tell (s : zS) (p0 p1 p2 p3 p4 : Int32) : zS := mTell (cTell s p0 p1 p2 p3 p4) p0 p1 p2 p3 p4
theorem cTell_f {s : zS} {p0 p1 p2 p3 p4 : Int32} (h : nK s.1 < 60) : zE tellS s (cTell s p0 p1 p2 p3 p4) ∧ nK (cTell s p0 p1 p2 p3 p4).1 = nK s.1 ∧ (cTell s p0 p1 p2 p3 p4).1 164 24 = s.1 164 24 ∧ (cTell s p0 p1 p2 p3 p4).1 164 18 = s.1 164 18 := by
  have h1 : ¬ 164 = 104 + nK s.1 := by omega
  have e : ∀ q, (cTell s p0 p1 p2 p3 p4).1 164 q = s.1 164 q := by
    intro q
    unfold cTell
    rw [zI_o (by decide), zI_o h1, zI_o h1, rowW_o h1]
  refine ⟨?_, by unfold nK; rw [e], e _, e _⟩
  unfold cTell
  refine zE_i (zE_i (zE_i (rowW_E zE_r ?_) ?_) ?_) ?_
  · intro k hk; unfold tellS; omega
  · unfold tellS; omega
  · unfold tellS; omega
  · unfold tellS; omega
theorem F_tell_ok {s : zS} {p0 p1 p2 p3 p4 : Int32} (hL : RelL s.1) (h : nK s.1 < 60) (hC : tellC s p0 p1 p2 p3 p4) :
    zE tellS s (F_tell s p0 p1 p2 p3 p4) ∧ RelL (F_tell s p0 p1 p2 p3 p4).1 ∧ nK (F_tell s p0 p1 p2 p3 p4).1 = nK s.1 + 1 ∧ (F_tell s p0 p1 p2 p3 p4).1 (104 + nK s.1) 10 = 0 ∧ (F_tell s p0 p1 p2 p3 p4).1 (104 + nK s.1) 13 = 0 ∧
    (∀ k, k < 60 → ¬ k = nK s.1 → ∀ j, (F_tell s p0 p1 p2 p3 p4).1 (104 + k) j = s.1 (104 + k) j ∧ (F_tell s p0 p1 p2 p3 p4).1 (183 + k) j = s.1 (183 + k) j) := by
  obtain ⟨c1, c2, c3, c4⟩ := cTell_f (s := s) (p0 := p0) (p1 := p1) (p2 := p2) (p3 := p3) (p4 := p4) h
  obtain ⟨u1, u2, u3⟩ := RN_s hL.1 h (by decide)
  have eF : F_tell s p0 p1 p2 p3 p4 = zI (rowW (cTell s p0 p1 p2 p3 p4) (183 + nK s.1) p0 p1 p2 p3 p4) 164 24 (s.1 164 24 + 1) := by unfold F_tell mTell; rw [c2, c3]
  have hE : zE tellS s (F_tell s p0 p1 p2 p3 p4) := by
    rw [eF]
    refine zE_i (rowW_E c1 ?_) ?_
    · intro k hk; unfold tellS; omega
    · unfold tellS; omega
  have n1 : ¬ (164 : Nat) = 183 + nK s.1 := by omega
  have n2 : ¬ (64 : Nat) = 183 + nK s.1 := by omega
  have n3 : ¬ (104 + nK s.1 : Nat) = 164 := by omega
  have n4 : ¬ (104 + nK s.1 : Nat) = 183 + nK s.1 := by omega
  have n5 : ¬ (104 + nK s.1 : Nat) = 64 := by omega
  have e24 : (F_tell s p0 p1 p2 p3 p4).1 164 24 = s.1 164 24 + 1 := by rw [eF, zI_eq]
  have e18 : (F_tell s p0 p1 p2 p3 p4).1 164 18 = s.1 164 18 := by rw [eF, zI_k (by decide), rowW_o n1, c4]
  have e7 : (F_tell s p0 p1 p2 p3 p4).1 64 7 = s.1 164 24 + 1 := by
    rw [eF, zI_o (by decide), rowW_o n2, cTell, zI_eq]
  have en : nK (F_tell s p0 p1 p2 p3 p4).1 = nK s.1 + 1 := by unfold nK; rw [e24, u1]
  have oth : ∀ k, k < 60 → ¬ k = nK s.1 → ∀ j, (F_tell s p0 p1 p2 p3 p4).1 (104 + k) j = s.1 (104 + k) j ∧ (F_tell s p0 p1 p2 p3 p4).1 (183 + k) j = s.1 (183 + k) j := by
    intro k hk hne j
    have m1 : ¬ (104 + k) = 164 := by omega
    have m2 : ¬ (104 + k) = 183 + nK s.1 := by omega
    have m3 : ¬ (104 + k) = 64 := by omega
    have m4 : ¬ (104 + k) = 104 + nK s.1 := by omega
    have m5 : ¬ (183 + k) = 164 := by omega
    have m6 : ¬ (183 + k) = 183 + nK s.1 := by omega
    have m7 : ¬ (183 + k) = 64 := by omega
    have m8 : ¬ (183 + k) = 104 + nK s.1 := by omega
    rw [eF]
    constructor
    · rw [zI_o m1, rowW_o m2, cTell, zI_o m3, zI_o m4, zI_o m4, rowW_o m4]
    · rw [zI_o m5, rowW_o m6, cTell, zI_o m7, zI_o m8, zI_o m8, rowW_o m8]
  refine ⟨hE, ⟨?_, by rw [e7, e24], ?_⟩, en, ?_, ?_, oth⟩
  · unfold RN; rw [e24]; have := hL.1.1; omega
  · intro k hk
    rw [en] at hk
    by_cases w : k = nK s.1
    · subst w
      have m5 : ¬ (183 + nK s.1) = 164 := by omega
      have er : ∀ j, (F_tell s p0 p1 p2 p3 p4).1 (183 + nK s.1) j = (rowW (cTell s p0 p1 p2 p3 p4) (183 + nK s.1) p0 p1 p2 p3 p4).1 (183 + nK s.1) j := fun j => by rw [eF, zI_o m5]
      have ec : ∀ j, j < 9 → (F_tell s p0 p1 p2 p3 p4).1 (104 + nK s.1) j = (rowW s (104 + nK s.1) p0 p1 p2 p3 p4).1 (104 + nK s.1) j := fun j hj => by
        have j1 : ¬ j = 10 := by omega
        have j2 : ¬ j = 13 := by omega
        rw [eF, zI_o n3, rowW_o n4, cTell, zI_o n5, zI_k j2, zI_k j1]
      refine ⟨fun j hj => by rw [er, ec j hj]; exact rowW_v hj, ?_⟩
      obtain ⟨a1, a2, a3, a4, a5, -⟩ := hC
      have b2 := bSpan_v a2
      have b3 := bV_v a3
      have b4 := bV_v a4
      unfold bLights at a5
      rw [Bool.and_eq_true, Bool.and_eq_true] at a5
      rw [er, er, er, er, er, er, er, er, er, e18]
      simp [-Int32.toInt_div, -Int32.toInt_mod, rowW, zI_1, a1, b2, b3, b4, a5]
    · have hk60 : k < 60 := by omega
      have hl := hL.2.2 k (by omega)
      unfold lOK at *
      have e1 : ∀ j, (F_tell s p0 p1 p2 p3 p4).1 (104 + k) j = s.1 (104 + k) j := fun j => (oth k hk60 w j).1
      have e2 : ∀ j, (F_tell s p0 p1 p2 p3 p4).1 (183 + k) j = s.1 (183 + k) j := fun j => (oth k hk60 w j).2
      simp only [e1, e2, e18]
      exact hl
  · rw [eF, zI_o n3, rowW_o n4, cTell, zI_o n5, zI_k (by decide), zI_eq]
  · rw [eF, zI_o n3, rowW_o n4, cTell, zI_o n5, zI_eq]
section TO
variable {l : Launch} {g : zG} {d : Nat} {s : zS}
theorem op_tell (hR : zRok s) {p0 p1 p2 p3 p4 : Int32} {Q : zS → Prop} (hS : RelS s.1) (hL : RelL s.1) (h1 : Q s)
    (h2 : ∀ s', zE tellS s s' → RelL s'.1 → nK s.1 < 60 → nK s'.1 = nK s.1 + 1 → s'.1 (104 + nK s.1) 10 = 0 → s'.1 (104 + nK s.1) 13 = 0 → (∀ k, k < 60 → ¬ k = nK s.1 → ∀ j, s'.1 (104 + k) j = s.1 (104 + k) j ∧ s'.1 (183 + k) j = s.1 (183 + k) j) → Q s') :
    zc l g (d + 3) M_X7_tell [.ref 64, .int p0, .int p1, .int p2, .int p3, .int p4] s (zKi fun r s5 => zc l g (d + 3) M_X8_tell [.ref 164, .int p0, .int p1, .int p2, .int p3, .int p4] s5 (zKi fun r' s10 => r = r' ∧ Q s10)) := by
  refine c_tell hR hS hL ?_ ?_
  · intro w
    exact m_tell hR hS.1 hL.1 (fun _ => ⟨rfl, h1⟩) (fun w2 => absurd w2 w)
  · intro w hlt
    obtain ⟨c1, c2, c3, c4⟩ := cTell_f (s := s) (p0 := p0) (p1 := p1) (p2 := p2) (p3 := p3) (p4 := p4) hlt
    have hs5 : RN (cTell s p0 p1 p2 p3 p4).1 164 18 20 := by unfold RN; rw [c4]; exact hS.1
    have hk5 : RN (cTell s p0 p1 p2 p3 p4).1 164 24 60 := by unfold RN; rw [c3]; exact hL.1
    have hC : tellC (cTell s p0 p1 p2 p3 p4) p0 p1 p2 p3 p4 := by unfold tellC; rw [c3, c4]; exact w
    obtain ⟨f1, f2, f3, f4, f5, f6⟩ := F_tell_ok hL hlt w
    exact m_tell (zE_K c1 hR) hs5 hk5 (fun w2 => absurd hC w2) (fun _ _ => ⟨c3.symm, h2 _ f1 f2 hlt f3 f4 f5 f6⟩)
theorem op_undo (hR : zRok s) {Q : zS → Prop} (hL : RelL s.1) (h1 : Q s)
    (h2 : ∀ s', zE tellS s s' → RelL s'.1 → nK s'.1 < nK s.1 → (∀ k j, k < 60 → s'.1 (104 + k) j = s.1 (104 + k) j ∧ s'.1 (183 + k) j = s.1 (183 + k) j) → Q s') :
    zc l g d M_X7_undo [.ref 64] s (zKi fun r s5 => zc l g d M_X8_undo [.ref 164] s5 (zKi fun r' s10 => r = r' ∧ Q s10)) := by
  have hk := hL.2.1
  have hc := hL.1
  refine t_X7_undo hR ?_
  rw [hk]
  by_cases w : s.1 164 24 = 0
  · rw [if_pos w]
    refine t_X8_undo hR ?_
    rw [if_pos w]
    exact ⟨rfl, h1⟩
  rw [if_neg w]
  have e24 : (zI s 64 7 (s.1 164 24 - 1)).1 164 24 = s.1 164 24 := rfl
  refine t_X8_undo (s := zI s 64 7 (s.1 164 24 - 1)) hR ?_
  rw [e24, if_neg w]
  have w0 : ¬ (s.1 164 24).toInt = 0 := fun e => w (i32_e e)
  have et : (s.1 164 24 - 1).toInt = (s.1 164 24).toInt - 1 := by
    have e : (1 : Int32).toInt = 1 := rfl
    unfold RN at hc
    rw [ti_sub (by omega) (by omega), e]
  have en : (s.1 164 24 - 1).toNatClampNeg < (s.1 164 24).toNatClampNeg := by
    unfold RN at hc
    have a1 := ti_tn hc.1
    have a2 := ti_tn (x := s.1 164 24 - 1) (by omega)
    omega
  refine ⟨rfl, h2 _ (zE_i (zE_i0 (by simp [tellS])) (by simp [tellS])) ?_ ?_ ?_⟩
  · refine ⟨?_, by rw [zI_eq]; rfl, ?_⟩
    · unfold RN at *; rw [zI_eq, et]; omega
    · intro k hk2
      have hk3 : k < nK s.1 := by
        unfold nK at hk2 ⊢
        rw [zI_eq] at hk2
        omega
      have k60 : k < 60 := by have := RN_l hc; unfold nK at hk3; omega
      have m1 : ¬ (104 + k) = 164 := by omega
      have m2 : ¬ (104 + k) = 64 := by omega
      have m3 : ¬ (183 + k) = 164 := by omega
      have m4 : ¬ (183 + k) = 64 := by omega
      have := hL.2.2 k hk3
      unfold lOK at *
      simp only [zI_1, m1, m2, m3, m4, false_and, if_false]
      exact this
  · unfold nK; rw [zI_eq]; exact en
  · intro k j k60
    have m1 : ¬ (104 + k) = 164 := by omega
    have m2 : ¬ (104 + k) = 64 := by omega
    have m3 : ¬ (183 + k) = 164 := by omega
    have m4 : ¬ (183 + k) = 64 := by omega
    simp [zI_1, m1, m2, m3, m4]
end TO
/-- the margins -/
def RelO (I : zM2) : Prop := I 64 8 = I 164 25 ∧ I 64 9 = I 164 26 ∧ RN I 164 25 32 ∧ RN I 164 26 200
def offS : Nat → Nat → Prop := fun o k => (o = 64 ∧ (k = 8 ∨ k = 9 ∨ k = 10)) ∨ (o = 164 ∧ (k = 25 ∨ k = 26))
section OO
variable {l : Launch} {g : zG} {d : Nat} {s : zS}
theorem op_off (hR : zRok s) {p q : Int32} {Q : zS → Prop} (h1 : Q s) (h2 : ∀ s', zE offS s s' → RelO s'.1 → s'.1 64 10 = s.1 64 10 + 1 → Q s') :
    zc l g (d + 1) M_X7_off [.ref 64, .int p, .int q] s (zKz fun r s5 => zc l g (d + 1) M_X8_off [.ref 164, .int p, .int q] s5 (zKz fun r' s10 => r = r' ∧ Q s10)) := by
  have e1 : zinr p.toInt64 0 32 = bR 0 32 p := zq1 rfl rfl
  have e2 : zinr q.toInt64 0 200 = bR 0 200 q := zq1 rfl rfl
  refine t_X7_off hR ?_
  by_cases a : bR 0 32 p = true ∧ bR 0 200 q = true
  rotate_left
  · have r0 : zc l g (d + 1) M_X8_off [.ref 164, .int p, .int q] s (zKz fun r' s10 => false = r' ∧ Q s10) := by
      refine t_X8_off hR ?_
      rw [e1, e2]
      by_cases a1 : bR 0 32 p = true
      · rw [if_pos a1, if_neg (fun a2 => a ⟨a1, a2⟩)]; exact ⟨rfl, h1⟩
      · rw [if_neg a1]; exact ⟨rfl, h1⟩
    rw [bR_t, bR_t] at a
    simp only [ti_lt, ti_le, til]
    by_cases u1 : p.toInt < 0
    · rw [if_pos u1]; exact r0
    rw [if_neg u1]
    by_cases u2 : 32 < p.toInt
    · rw [if_pos u2]; exact r0
    rw [if_neg u2]
    by_cases u3 : q.toInt < 0
    · rw [if_pos u3]; exact r0
    rw [if_neg u3, if_neg (by omega)]; exact r0
  obtain ⟨a1, a2⟩ := a
  have b1 := bR_t.mp a1
  have b2 := bR_t.mp a2
  rw [if_neg (by rw [ti_lt]; simp only [til]; omega), if_neg (by rw [ti_lt]; simp only [til]; omega), if_neg (by rw [ti_lt]; simp only [til]; omega), if_pos (by rw [ti_le]; simp only [til]; omega)]
  refine t_X8_off (s := zI (zI (zI s 64 8 p) 64 9 q) 64 10 (s.1 64 10 + 1)) hR ?_
  rw [e1, e2, if_pos a1, if_pos a2]
  refine ⟨rfl, h2 _ ?_ ?_ rfl⟩
  · exact zE_i (zE_i (zE_i (zE_i (zE_i0 (by simp [offS])) (by simp [offS])) (by simp [offS])) (by simp [offS])) (by simp [offS])
  · exact ⟨rfl, rfl, b1, b2⟩
end OO
