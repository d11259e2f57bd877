/-! ===== the class's isLike ===== -/
section LI
variable {l : Launch} {g : zG} {d : Nat} {s : zS} {m pl : Int32} {t i o ja jb : Nat}
/-- look, near, not hidden: one minute of a telling -/
theorem c_near1 (hR : zRok s) {K : Bool → zS → Prop} (hH : RelH s.1) (hO : RelO s.1) (ht : t < 12) (ho : tOK s.1 t) (hm : bR 0 239 m = true) (hp1 : pl / 64 = s.1 170 i) (hp2 : pl % 64 = s.1 171 i) (hob : ¬ o = 68)
    (h : ∀ s', zE s68 s s' → K (shF s.1 t i m && nrF s.1 (wyF s.1 t i m) (slF s.1 t i m) (s.1 o ja) (s.1 o jb)) s') :
    zc l g (d + 4) M_X4_look [.ref 68, .ref (92 + t), .int pl, .int m] s (zKz (fun b4 s3 => s3.2.2.1 = s.2.2.1 ∧ (if b4 = true then (zc l g (d + 4) M_X7_isNear [.ref 64, .int (s3.1 o ja), .int (s3.1 o jb)] s3 (zKz (fun b6 s5 => s5.2.2.1 = s3.2.2.1 ∧ (if b6 = true then (zc l g (d + 4) M_X4_hidingHill [.ref 68] s5 (zKi (fun r8 s7 => s7.2.2.1 = s5.2.2.1 ∧ (if r8 = (-1 : Int32) then K true s7 else K false s7)))) else K false s5)))) else K false s3))) := by
  refine c_look (d := d + 1) hR (i := i) hH ht ho hm hp1 hp2 ?_ ?_
  · intro hL s' hE
    refine ⟨zE_R hE, ?_⟩
    rw [if_neg (by decide)]
    have hh := h s' hE
    rw [show shF s.1 t i m = false by unfold shF; rw [hL]; rfl, Bool.false_and] at hh
    exact hh
  · intro hL s' hE w1 w2 a1 a2
    refine ⟨zE_R hE, ?_⟩
    rw [if_pos rfl]
    have hR' := zE_K hE hR
    have hO' : RelO s'.1 := by
      unfold RelO RN at *
      rw [z68 hE (by decide), z68 hE (by decide), z68 hE (by decide), z68 hE (by decide)]
      exact hO
    have hh := h s' hE
    refine c_isNear (d := d + 2) hR' hO' ⟨rfl, ?_⟩
    have en : nrF s'.1 (s'.1 68 1) (s'.1 68 2) (s'.1 o ja) (s'.1 o jb) = nrF s.1 (wyF s.1 t i m) (slF s.1 t i m) (s.1 o ja) (s.1 o jb) := by
      unfold nrF
      rw [w1, w2, z68 hE hob, z68 hE hob, z68 hE (by decide), z68 hE (by decide)]
    rw [en]
    by_cases c : nrF s.1 (wyF s.1 t i m) (slF s.1 t i m) (s.1 o ja) (s.1 o jb) = true
    rotate_left
    · rw [if_neg c]; rw [Bool.eq_false_iff.mpr c, Bool.and_false] at hh; exact hh
    rw [if_pos c]; rw [c, Bool.and_true] at hh
    refine c_hid (d := d + 3) hR' hE hH ho hL a1 a2 ⟨rfl, ?_⟩
    unfold shF at hh
    rw [hL, Bool.true_and] at hh
    by_cases h0 : s.1 172 t = 0
    · rw [if_pos h0, if_pos rfl]; rw [decide_eq_true h0, Bool.true_or] at hh; exact hh
    · rw [if_neg h0]
      rw [decide_eq_false h0, Bool.false_or] at hh
      by_cases c2 : hidF s.1 i (pX s.1 t m) (pY s.1 t m) (pZ s.1 t m) = -1
      · rw [if_pos c2]; rw [decide_eq_true c2] at hh; exact hh
      · rw [if_neg c2]; rw [decide_eq_false c2] at hh; exact hh
end LI
