/-! ===== tellings: tell on both sides ===== -/
def nK (I : zM2) : Nat := (I 164 24).toNatClampNeg
def lOK (I : zM2) (k : Nat) : Prop :=
  (∀ j, j < 9 → I (104 + k) j = I (183 + k) j) ∧ bR 0 ((I 164 18).toInt - 1) (I (183 + k) 0) = true ∧ bR 0 239 (I (183 + k) 1) = true ∧ bR 0 239 (I (183 + k) 2) = true ∧ (I (183 + k) 1).toInt ≤ (I (183 + k) 2).toInt ∧ bR 0 255 (I (183 + k) 3) = true ∧ bR 0 999 (I (183 + k) 4) = true ∧ bR 0 255 (I (183 + k) 5) = true ∧ bR 0 999 (I (183 + k) 6) = true ∧ bR 1 9 (I (183 + k) 7) = true ∧ bR 0 1 (I (183 + k) 8) = true
def RelL (I : zM2) : Prop := RN I 164 24 60 ∧ I 64 7 = I 164 24 ∧ ∀ k, k < nK I → lOK I k
def tellS : Nat → Nat → Prop := fun o k => (104 ≤ o ∧ o < 164 ∧ ¬ k = 9 ∧ ¬ k = 11 ∧ ¬ k = 12) ∨ (183 ≤ o ∧ o < 243) ∨ (o = 64 ∧ k = 7) ∨ (o = 164 ∧ k = 24)
theorem bV_v {m : Int32} (h : bR 0 255999 m = true) : bR 0 255 (m / 1000) = true ∧ bR 0 999 (m % 1000) = true := by
  rw [bR_t] at h
  have e : (1000 : Int32).toInt = 1000 := rfl
  constructor
  · rw [bR_t, ti_divp h.1, e]; omega
  · rw [bR_t, ti_modp h.1, e]; omega
theorem bLi_m {m : Int32} : bLights m = true ↔ (bR 1 19 m = true ∧ ¬ m = 10) := by
  have hr := ti_rng m
  have e : (10 : Int32).toInt = 10 := rfl
  unfold bLights
  rw [Bool.and_eq_true, Bool.and_eq_true, bR_t, bR_t, bR_t, bR_t, ti_eq, e]
  by_cases q : 0 ≤ m.toInt
  · rw [ti_divp q, ti_modp q, e]; omega
  · constructor
    · intro w; omega
    · intro w; omega
def rowW (s : zS) (o : Nat) (p0 p1 p2 p3 p4 : Int32) : zS := zI (zI (zI (zI (zI (zI (zI (zI (zI s o 0 p0) o 1 (p1 / 1000)) o 2 (p1 % 1000)) o 3 (p2 / 1000)) o 4 (p2 % 1000)) o 5 (p3 / 1000)) o 6 (p3 % 1000)) o 7 (p4 % 10)) o 8 (p4 / 10)
def cTell (s : zS) (p0 p1 p2 p3 p4 : Int32) : zS := zI (zI (zI (rowW s (104 + nK s.1) p0 p1 p2 p3 p4) (104 + nK s.1) 10 0) (104 + nK s.1) 13 0) 64 7 (s.1 164 24 + 1)
def mTell (s : zS) (p0 p1 p2 p3 p4 : Int32) : zS := zI (rowW s (183 + nK s.1) p0 p1 p2 p3 p4) 164 24 (s.1 164 24 + 1)
def tellC (s : zS) (p0 p1 p2 p3 p4 : Int32) : Prop := bR 0 ((s.1 164 18).toInt - 1) p0 = true ∧ bSpan p1 = true ∧ bR 0 255999 p2 = true ∧ bR 0 255999 p3 = true ∧ bLights p4 = true ∧ ¬ s.1 164 24 = 60
theorem RN_v {I : zM2} {o k m : Nat} (h : RN I o k m) (hl : (I o k).toNatClampNeg < m) : vp_in (I o k) m := vin_i h.1 (by have := ti_tn h.1; omega)
section TL
variable {l : Launch} {g : zG} {d : Nat} {s : zS} {p0 p1 p2 p3 p4 : Int32} {K : Int32 → zS → Prop}
theorem c_tell (hR : zRok s) (hS : RelS s.1) (hL : RelL s.1) (h1 : ¬ tellC s p0 p1 p2 p3 p4 → K (-1) s) (h2 : tellC s p0 p1 p2 p3 p4 → nK s.1 < 60 → K (s.1 164 24) (cTell s p0 p1 p2 p3 p4)) : zc l g (d + 2) M_X7_tell [.ref 64, .int p0, .int p1, .int p2, .int p3, .int p4] s (zKi K) := by
  have hs := hS.2.1
  have hk := hL.2.1
  refine t_X7_tell hR (c_isSeer hR (by rw [hs]; exact hS.1.1) ⟨rfl, ?_⟩)
  rw [hs]
  by_cases a1 : bR 0 ((s.1 164 18).toInt - 1) p0 = true
  rotate_left
  · rw [if_neg a1]; exact h1 (fun w => a1 w.1)
  rw [if_pos a1]
  refine c_isSpan hR ⟨rfl, ?_⟩
  by_cases a2 : bSpan p1 = true
  rotate_left
  · rw [if_neg a2]; exact h1 (fun w => a2 w.2.1)
  rw [if_pos a2]
  refine c_isDirection hR ⟨rfl, ?_⟩
  by_cases a3 : bR 0 255999 p2 = true
  rotate_left
  · rw [if_neg a3]; exact h1 (fun w => a3 w.2.2.1)
  rw [if_pos a3]
  refine c_isDirection hR ⟨rfl, ?_⟩
  by_cases a4 : bR 0 255999 p3 = true
  rotate_left
  · rw [if_neg a4]; exact h1 (fun w => a4 w.2.2.2.1)
  rw [if_pos a4]
  refine c_isLightsAndHull hR ⟨rfl, ?_⟩
  by_cases a5 : bLights p4 = true
  rotate_left
  · rw [if_neg a5]; exact h1 (fun w => a5 w.2.2.2.2.1)
  rw [if_pos a5, hk]
  by_cases a6 : s.1 164 24 = 60
  · rw [if_neg (by rw [a6]; decide)]; exact h1 (fun w => w.2.2.2.2.2 a6)
  have hlt : nK s.1 < 60 := RN_lt hL.1 rfl a6
  rw [if_pos (by rw [ti_lt]; simp only [til]; have := ti_tn hL.1.1; unfold nK at hlt; omega)]
  exact ⟨RN_v hL.1 hlt, h2 ⟨a1, a2, a3, a4, a5, a6⟩ hlt⟩
theorem m_tell (hR : zRok s) (hs : RN s.1 164 18 20) (hk : RN s.1 164 24 60) (h1 : ¬ tellC s p0 p1 p2 p3 p4 → K (-1) s) (h2 : tellC s p0 p1 p2 p3 p4 → nK s.1 < 60 → K (s.1 164 24) (mTell s p0 p1 p2 p3 p4)) : zc l g (d + 3) M_X8_tell [.ref 164, .int p0, .int p1, .int p2, .int p3, .int p4] s (zKi K) := by
  refine t_X8_tell hR (m_isSeer hR hs.1 ⟨rfl, ?_⟩)
  by_cases a1 : bR 0 ((s.1 164 18).toInt - 1) p0 = true
  rotate_left
  · rw [if_neg a1]; exact h1 (fun w => a1 w.1)
  rw [if_pos a1]
  refine m_areMinutes hR ⟨rfl, ?_⟩
  by_cases a2 : bSpan p1 = true
  rotate_left
  · rw [if_neg a2]; exact h1 (fun w => a2 w.2.1)
  rw [if_pos a2]
  refine m_isView hR ⟨rfl, ?_⟩
  by_cases a3 : bR 0 255999 p2 = true
  rotate_left
  · rw [if_neg a3]; exact h1 (fun w => a3 w.2.2.1)
  rw [if_pos a3]
  refine m_isView hR ⟨rfl, ?_⟩
  by_cases a4 : bR 0 255999 p3 = true
  rotate_left
  · rw [if_neg a4]; exact h1 (fun w => a4 w.2.2.2.1)
  rw [if_pos a4, show zinr p4.toInt64 1 19 = bR 1 19 p4 from zq1 rfl rfl]
  by_cases a5 : bR 1 19 p4 = true
  rotate_left
  · rw [if_neg a5]; exact h1 (fun w => a5 (bLi_m.mp w.2.2.2.2.1).1)
  rw [if_pos a5]
  by_cases a6 : p4 = 10
  · rw [if_pos a6]; exact h1 (fun w => (bLi_m.mp w.2.2.2.2.1).2 a6)
  rw [if_neg a6]
  by_cases a7 : s.1 164 24 = 60
  · rw [if_pos a7]; exact h1 (fun w => w.2.2.2.2.2 a7)
  rw [if_neg a7, i32_s1]
  have hlt : nK s.1 < 60 := RN_lt hk rfl a7
  exact ⟨RN_v hk hlt, h2 ⟨a1, a2, a3, a4, bLi_m.mpr ⟨a5, a6⟩, a7⟩ hlt⟩
end TL
theorem rowW_o {s : zS} {o p q : Nat} {p0 p1 p2 p3 p4 : Int32} (h : ¬ p = o) : (rowW s o p0 p1 p2 p3 p4).1 p q = s.1 p q := by
  simp [rowW, zI_1, h]
theorem rowW_9 {s : zS} {o q : Nat} {p0 p1 p2 p3 p4 : Int32} (h : 9 ≤ q) : (rowW s o p0 p1 p2 p3 p4).1 o q = s.1 o q := by
  have : ¬ q = 0 ∧ ¬ q = 1 ∧ ¬ q = 2 ∧ ¬ q = 3 ∧ ¬ q = 4 ∧ ¬ q = 5 ∧ ¬ q = 6 ∧ ¬ q = 7 ∧ ¬ q = 8 := by omega
  simp [rowW, zI_1, this]
theorem rowW_v {s s' : zS} {o o' q : Nat} {p0 p1 p2 p3 p4 : Int32} (h : q < 9) : (rowW s o p0 p1 p2 p3 p4).1 o q = (rowW s' o' p0 p1 p2 p3 p4).1 o' q := by
  have : q = 0 ∨ q = 1 ∨ q = 2 ∨ q = 3 ∨ q = 4 ∨ q = 5 ∨ q = 6 ∨ q = 7 ∨ q = 8 := by omega
  rcases this with rfl | rfl | rfl | rfl | rfl | rfl | rfl | rfl | rfl <;> simp [rowW, zI_1]
theorem rowW_E {S : Nat → Nat → Prop} {s s' : zS} {o : Nat} {p0 p1 p2 p3 p4 : Int32} (h : zE S s s') (hs : ∀ k, k < 9 → S o k) : zE S s (rowW s' o p0 p1 p2 p3 p4) := by
  unfold rowW
  exact zE_i (zE_i (zE_i (zE_i (zE_i (zE_i (zE_i (zE_i (zE_i h (hs 0 (by decide))) (hs 1 (by decide))) (hs 2 (by decide))) (hs 3 (by decide))) (hs 4 (by decide))) (hs 5 (by decide))) (hs 6 (by decide))) (hs 7 (by decide))) (hs 8 (by decide))
theorem RelL_c {I I' : zM2} (h1 : ∀ o, 104 ≤ o → o < 164 → ∀ k, k < 9 → I' o k = I o k) (h2 : ∀ o, 183 ≤ o → o < 243 → ∀ k, I' o k = I o k) (h3 : I' 164 24 = I 164 24) (h4 : I' 64 7 = I 64 7) (h5 : (I 164 18).toInt ≤ (I' 164 18).toInt) (h : RelL I) : RelL I' := by
  unfold RelL nK RN at *
  rw [h3, h4]
  refine ⟨h.1, h.2.1, fun k hk => ?_⟩
  have hl := h.2.2 k hk
  have h60 : k < 60 := by have := ti_tn h.1.1; have := h.1.2; omega
  unfold lOK at *
  have e : ∀ j, I' (183 + k) j = I (183 + k) j := fun j => h2 _ (by omega) (by omega) j
  simp only [e]
  refine ⟨fun j hj => by rw [h1 _ (by omega) (by omega) j hj]; exact hl.1 j hj, ?_, hl.2.2⟩
  have := bR_t.mp hl.2.1
  rw [bR_t]
  omega
