/-! ===== what is shown, on the class's side ===== -/
theorem pZ_b {I : zM2} (hH : RelH I) {t : Nat} {m : Int32} (ho : tOK I t) (h0 : ¬ I 172 t = 0) (hI : pIs I t m = true) : 0 ≤ (pZ I t m).toInt ∧ (pZ I t m).toInt ≤ 315 := by
  have o2 := (ho.2.resolve_left (fun w => h0 w.1)).2
  have bz := bR_t.mp o2.2.2.2.2.2.1
  have bg := mG_60 hH (I 175 t) (I 176 t)
  unfold pZ
  unfold pIs at hI
  rcases o2.2.2.2.2.2.2 with w | w
  · rw [if_pos w.1, ti_add (by omega) (by omega)]
    omega
  · rw [if_neg w.1]
    rw [if_neg w.1] at hI
    rcases w.2.2.2.2.2.2 with u | u
    · rw [if_pos u.1]
      rw [if_pos u.1] at hI
      by_cases kr : bR (I 173 t).toInt (I 174 t).toInt m = true
      · rw [if_pos kr, decide_eq_true_eq, ti_le] at hI
        have br := bR_t.mp kr
        have b1 := bR_t.mp w.2.2.2.1
        have b2 := bR_t.mp w.2.2.2.2.1
        have bf := bR_t.mp u.2.2.1
        have eg : (m - I 173 t).toInt = m.toInt - (I 173 t).toInt := ti_sub (by omega) (by omega)
        have n1 : 0 ≤ (I 178 t).toInt * (m.toInt - (I 173 t).toInt) := Int.mul_nonneg bf.1 (by omega)
        have n2 : (I 178 t).toInt * (m.toInt - (I 173 t).toInt) ≤ 20 * 239 := by
          have a1 : (I 178 t).toInt * (m.toInt - (I 173 t).toInt) ≤ 20 * (m.toInt - (I 173 t).toInt) := Int.mul_le_mul_of_nonneg_right bf.2 (by omega)
          omega
        have em : (I 178 t * (m - I 173 t)).toInt = (I 178 t).toInt * (m.toInt - (I 173 t).toInt) := by rw [ti_mul (by rw [eg]; omega) (by rw [eg]; omega), eg]
        have es : (I 177 t - I 178 t * (m - I 173 t)).toInt = (I 177 t).toInt - (I 178 t).toInt * (m.toInt - (I 173 t).toInt) := by rw [ti_sub (by rw [em]; omega) (by rw [em]; omega), em]
        rw [es] at hI ⊢
        omega
      · rw [if_neg kr] at hI; cases hI
    · rw [if_neg u.1]; omega
section SH
variable {l : Launch} {g : zG} {d : Nat} {s : zS} {m pl : Int32} {t i : Nat}
/-- after a look that found something: the hill that hides it -/
theorem c_hid (hR : zRok s) {K : Int32 → zS → Prop} {s0 : zS} (hE : zE s68 s0 s) (hH : RelH s0.1) (ho : tOK s0.1 t) (hL : litF s0.1 t m = true)
    (h1 : s0.1 172 t = 0 → s.1 68 3 = 1)
    (h2 : ¬ s0.1 172 t = 0 → s.1 68 3 = 0 ∧ s.1 68 4 = s0.1 170 i ∧ s.1 68 5 = s0.1 171 i ∧ s.1 68 6 = mG s0.1 (s0.1 170 i) (s0.1 171 i) + 1 ∧ s.1 68 7 = pX s0.1 t m - s0.1 170 i ∧ s.1 68 8 = pY s0.1 t m - s0.1 171 i ∧ s.1 68 9 = pZ s0.1 t m - (mG s0.1 (s0.1 170 i) (s0.1 171 i) + 1))
    (h : K (if s0.1 172 t = 0 then -1 else hidF s0.1 i (pX s0.1 t m) (pY s0.1 t m) (pZ s0.1 t m)) s) : zc l g (d + 1) M_X4_hidingHill [.ref 68] s (zKi K) := by
  have sa := same68 hE t
  have hH' := RelH68 hE hH
  by_cases h0 : s0.1 172 t = 0
  · rw [if_pos h0] at h
    have e := h1 h0
    exact c_hidingHill hR hH' (fun _ => h) (fun w => by rw [e] at w; exact absurd w (by decide)) (fun w => by rw [e] at w; exact absurd w (by decide))
  · rw [if_neg h0] at h
    obtain ⟨a3, a4, a5, a6, a7, a8, a9⟩ := h2 h0
    have kI : pIs s0.1 t m = true := by
      unfold litF at hL
      rw [decide_eq_false h0, Bool.false_or, Bool.and_eq_true] at hL
      exact hL.1
    have bz := pZ_b hH ho h0 kI
    have bg := mG_60 hH (s0.1 170 i) (s0.1 171 i)
    have e1 : (mG s0.1 (s0.1 170 i) (s0.1 171 i) + 1).toInt = (mG s0.1 (s0.1 170 i) (s0.1 171 i)).toInt + 1 := ti_1 (by omega)
    have e2 : (pZ s0.1 t m - (mG s0.1 (s0.1 170 i) (s0.1 171 i) + 1)).toInt = (pZ s0.1 t m).toInt - ((mG s0.1 (s0.1 170 i) (s0.1 171 i)).toInt + 1) := by rw [ti_sub (by rw [e1]; omega) (by rw [e1]; omega), e1]
    refine c_hidingHill hR hH' (fun w => absurd a3 w) (fun _ => ?_) (fun _ => ?_)
    · rw [a6, a9, e1, e2]; omega
    · rw [a4, a5, a6, a7, a8, a9, hidL_c sa.1 sa.2.1]
      exact h
theorem c_shows (hR : zRok s) {K : Bool → zS → Prop} (hH : RelH s.1) (ht : t < 12) (ho : tOK s.1 t) (hm : bR 0 239 m = true) (hp1 : pl / 64 = s.1 170 i) (hp2 : pl % 64 = s.1 171 i)
    (h : ∀ s', zE s68 s s' → (shF s.1 t i m = true → s'.1 68 1 = wyF s.1 t i m ∧ s'.1 68 2 = slF s.1 t i m) → K (shF s.1 t i m) s') :
    zc l g (d + 4) M_X4_shows [.ref 68, .ref (92 + t), .int pl, .int m] s (zKz K) := by
  have hb : 92 ≤ 92 + t ∧ 92 + t < 104 := by omega
  refine t_X4_shows hR hb (c_look hR (i := i) hH ht ho hm hp1 hp2 ?_ ?_)
  · intro hL s' hE
    refine ⟨zE_R hE, ?_⟩
    rw [if_neg (by decide)]
    have hh := h s' hE
    unfold shF at hh
    rw [hL, Bool.false_and] at hh
    exact hh (fun w => absurd w (by decide))
  · intro hL s' hE w1 w2 a1 a2
    refine ⟨zE_R hE, ?_⟩
    rw [if_pos rfl]
    have hh := h s' hE (fun _ => ⟨w1, w2⟩)
    refine c_hid (zE_K hE hR) hE hH ho hL a1 a2 ⟨rfl, ?_⟩
    unfold shF at hh
    rw [hL, Bool.true_and] at hh
    by_cases h0 : s.1 172 t = 0
    · rw [if_pos h0, if_pos rfl]; rw [decide_eq_true h0, Bool.true_or] at hh; exact hh
    · rw [if_neg h0]
      rw [decide_eq_false h0, Bool.false_or] at hh
      by_cases c : hidF s.1 i (pX s.1 t m) (pY s.1 t m) (pZ s.1 t m) = -1
      · rw [if_pos c]; rw [decide_eq_true c] at hh; exact hh
      · rw [if_neg c]; rw [decide_eq_false c] at hh; exact hh
end SH
