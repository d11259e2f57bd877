/-! ===== the class's hiding hill, with its early end ===== -/
theorem line_i {e rz : Int32} {k : Nat} (he : 0 ≤ e.toInt) (he2 : e.toInt ≤ 61) (hr : -10000 ≤ rz.toInt) (hr2 : rz.toInt ≤ 10000) (hk : k ≤ 16) : (e + (rz * nI k) >>> 4).toInt = e.toInt + rz.toInt * k / 16 := by
  have ek : (nI k).toInt = k := nI_toInt (by omega)
  have b1 : -160000 ≤ rz.toInt * k ∧ rz.toInt * k ≤ 160000 := by
    have h1 : rz.toInt * k ≤ 10000 * k := Int.mul_le_mul_of_nonneg_right hr2 (by omega)
    have h2 : -10000 * (k : Int) ≤ rz.toInt * k := Int.mul_le_mul_of_nonneg_right hr (by omega)
    omega
  have em : (rz * nI k).toInt = rz.toInt * k := by rw [ti_mul (by rw [ek]; omega) (by rw [ek]; omega), ek]
  have es : ((rz * nI k) >>> 4).toInt = rz.toInt * k / 16 := by rw [shr4, em]
  rw [ti_add (by rw [es]; omega) (by rw [es]; omega), es]
theorem hid_top {I : zM2} {fx fy e dx dy rz : Int32} {hi : Int} (hg : ∀ x y, (mG I x y).toInt ≤ hi) (he : 0 ≤ e.toInt) (he2 : e.toInt ≤ 61) (hr : -10000 ≤ rz.toInt) (hr2 : rz.toInt ≤ 10000) (ht : hi ≤ e.toInt + rz.toInt) : ∀ (m k : Nat), k + m = 16 → hi ≤ e.toInt + rz.toInt * k / 16 → hidL I fx fy e dx dy rz m k = -1 := by
  intro m
  induction m with
  | zero => intro k _ _; rfl
  | succ m ih =>
    intro k hk hl
    unfold hidL
    have hc : mG I (fx + (dx * nI k) >>> 4) (fy + (dy * nI k) >>> 4) ≤ e + (rz * nI k) >>> 4 := by
      rw [ti_le, line_i he he2 hr hr2 (by omega)]
      have := hg (fx + (dx * nI k) >>> 4) (fy + (dy * nI k) >>> 4)
      omega
    rw [if_pos hc]
    refine ih (k + 1) (by omega) ?_
    have ek : ((k + 1 : Nat) : Int) = (k : Int) + 1 := by omega
    rw [ek]
    by_cases q : 0 ≤ rz.toInt
    · have : rz.toInt * ((k : Int) + 1) = rz.toInt * k + rz.toInt := by rw [Int.mul_add, Int.mul_one]
      rw [this]
      omega
    · have h16 : (k : Int) + 1 ≤ 16 := by omega
      have : rz.toInt * 16 ≤ rz.toInt * ((k : Int) + 1) := Int.mul_le_mul_of_nonpos_left (by omega) h16
      omega
section HH
variable {l : Launch} {g : zG} {d : Nat} {s : zS} {K : Int32 → zS → Prop}
theorem c_hiding_36 (hR : zRok s) (hH : RelH s.1) {f : Int32} (he : 0 ≤ (s.1 68 6).toInt) (he2 : (s.1 68 6).toInt ≤ 61) (hr : -10000 ≤ (s.1 68 9).toInt) (hr2 : (s.1 68 9).toInt ≤ 10000) (hf : ¬ f = 0 → (s.1 65 2).toInt ≤ (s.1 68 6).toInt + (s.1 68 9).toInt) :
    ∀ m k, k + m = 16 → K (hidL s.1 (s.1 68 4) (s.1 68 5) (s.1 68 6) (s.1 68 7) (s.1 68 8) (s.1 68 9) m k) s → zt l g (d + 1) M_X4_hidingHill 36 [.ref 68, .int f, .int (nI k), zJ, zJ, zJ] [] s (zKi K) := by
  intro m
  induction m with
  | zero =>
    intro k hk h
    refine t_X4_hidingHill_36 hR ?_
    rw [if_pos (by rw [ti_le, nI_toInt (by omega)]; simp only [til]; omega)]
    exact h
  | succ m ih =>
    intro k hk h
    refine t_X4_hidingHill_36 hR ?_
    rw [if_neg (by rw [ti_le, nI_toInt (by omega)]; simp only [til]; omega)]
    intro v1 e1
    have e1' : v1 = s.1 68 6 + (s.1 68 9 * nI k) >>> 4 := e1
    subst e1'
    have step : (∀ v2 : Int32, v2 = (s.1 68 4) + (((s.1 68 7) * nI k) >>> ((4 : Int32) &&& 31)) → (∀ v3 : Int32, v3 = (s.1 68 5) + (((s.1 68 8) * nI k) >>> ((4 : Int32) &&& 31)) → (zc l g d M_X1_groundAt [.ref 65, .int v2, .int v3] s (zKi (fun r5 s4 => s4.2.2.1 = s.2.2.1 ∧ (if r5 ≤ s.1 68 6 + (s.1 68 9 * nI k) >>> 4 then zt l g (d + 1) M_X4_hidingHill 36 [.ref 68, .int f, .int (nI k + (1 : Int32)), zJ, zJ, zJ] [] s4 (zKi K) else (zc l g d M_X1_makerAt [.ref 65, .int v2, .int v3] s4 (zKi (fun r7 s6 => s6.2.2.1 = s4.2.2.1 ∧ K r7 s6))))))))) := by
      intro v2 e2 v3 e3
      have e2' : v2 = s.1 68 4 + (s.1 68 7 * nI k) >>> 4 := e2
      have e3' : v3 = s.1 68 5 + (s.1 68 8 * nI k) >>> 4 := e3
      subst e2' e3'
      refine c_groundAt hR hH ⟨rfl, ?_⟩
      unfold hidL at h
      by_cases c : mG s.1 (s.1 68 4 + (s.1 68 7 * nI k) >>> 4) (s.1 68 5 + (s.1 68 8 * nI k) >>> 4) ≤ s.1 68 6 + (s.1 68 9 * nI k) >>> 4
      · rw [if_pos c]; rw [if_pos c] at h
        rw [← nI_succ]
        exact ih (k + 1) (by omega) h
      · rw [if_neg c]; rw [if_neg c] at h
        exact c_makerAt hR hH ⟨rfl, h⟩
    by_cases f0 : f = 0
    · rw [if_pos f0]; exact step
    · rw [if_neg f0]
      have ht := hf f0
      by_cases c : s.1 68 6 + (s.1 68 9 * nI k) >>> 4 < s.1 65 2
      · rw [if_pos c]; exact step
      · rw [if_neg c]
        have hl : (s.1 65 2).toInt ≤ (s.1 68 6).toInt + (s.1 68 9).toInt * k / 16 := by
          have := line_i he he2 hr hr2 (k := k) (by omega)
          have c' : ¬ s.1 68 6 + (s.1 68 9 * nI k) >>> 4 < s.1 65 2 := c
          rw [ti_lt] at c'
          omega
        rw [hid_top (fun x y => (mG_r hH x y).2) he he2 hr hr2 ht (m + 1) k hk hl] at h
        exact h
theorem c_hidingHill (hR : zRok s) (hH : RelH s.1) (h0 : ¬ s.1 68 3 = 0 → K (-1) s) (he : s.1 68 3 = 0 → 0 ≤ (s.1 68 6).toInt ∧ (s.1 68 6).toInt ≤ 61 ∧ -10000 ≤ (s.1 68 9).toInt ∧ (s.1 68 9).toInt ≤ 10000)
    (h : s.1 68 3 = 0 → K (hidL s.1 (s.1 68 4) (s.1 68 5) (s.1 68 6) (s.1 68 7) (s.1 68 8) (s.1 68 9) 15 1) s) : zc l g (d + 1) M_X4_hidingHill [.ref 68] s (zKi K) := by
  refine t_X4_hidingHill hR ?_
  by_cases c : s.1 68 3 = 0
  rotate_left
  · rw [if_neg c]; exact h0 c
  obtain ⟨b1, b2, b3, b4⟩ := he c
  have es : (s.1 68 6 + s.1 68 9).toInt = (s.1 68 6).toInt + (s.1 68 9).toInt := ti_add (by omega) (by omega)
  rw [if_pos c]
  by_cases q : s.1 68 6 + s.1 68 9 < s.1 65 2
  · rw [if_pos q]
    exact c_hiding_36 hR hH b1 b2 b3 b4 (fun w => absurd rfl w) 15 1 (by omega) (h c)
  · rw [if_neg q]
    rw [ti_lt, es] at q
    exact c_hiding_36 hR hH b1 b2 b3 b4 (fun _ => by omega) 15 1 (by omega) (h c)
end HH
