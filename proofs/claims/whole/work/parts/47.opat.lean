/-! ===== at: both sides ===== -/
theorem thN {I : zM2} {p : Int32} (hT : RelT I) (h : bR 0 ((I 164 19).toInt - 1) p = true) : p.toNatClampNeg < nT I ∧ p.toNatClampNeg < 12 ∧ vp_in p 12 := by
  have b := bR_t.mp h
  have h1 := hT.1.2
  have h2 := ti_tn hT.1.1
  have h3 := ti_tn b.1
  refine ⟨by unfold nT; omega, by omega, vin_i b.1 (by omega)⟩
theorem RelT_at {s s' : zS} (h : zE atS s s') (hT : RelT s.1) : RelT s'.1 :=
  RelT_c (fun o a b k => h.2 o k (by unfold atS; omega)) (fun o a b k => h.2 o k (by unfold atS; omega)) (h.2 _ _ (by simp [atS])) (h.2 _ _ (by simp [atS])) hT
section OA
variable {l : Launch} {g : zG} {d : Nat} {s : zS}
theorem op_at (hR : zRok s) {p m w : Int32} {Q : zS → Prop} (hH : RelH s.1) (hT : RelT s.1) (h2 : ∀ s', zE atS s s' → Q s') :
    zc l g (d + 4) M_X7_at [.ref 64, .int p, .int m, .int w] s (zKi fun r s5 => zc l g (d + 4) M_X8_at [.ref 164, .int p, .int m, .int w] s5 (zKi fun r' s10 => r = r' ∧ Q s10)) := by
  have e3 : zinr w.toInt64 0 3 = bR 0 3 w := zq1 rfl rfl
  have h1 : Q s := h2 s zE_r
  have rej : ¬ (bR 0 ((s.1 164 19).toInt - 1) p = true ∧ bR 0 239 m = true ∧ bR 0 3 w = true) → zc l g (d + 4) M_X8_at [.ref 164, .int p, .int m, .int w] s (zKi fun r' s10 => (-2147483648 : Int32) = r' ∧ Q s10) := by
    intro q
    refine t_X8_at hR (m_isThing hR hT.1.1 ⟨rfl, ?_⟩)
    by_cases a1 : bR 0 ((s.1 164 19).toInt - 1) p = true
    · rw [if_pos a1]
      refine m_isMinute hR ⟨rfl, ?_⟩
      by_cases a2 : bR 0 239 m = true
      · rw [if_pos a2, e3]
        by_cases a3 : bR 0 3 w = true
        · exact absurd ⟨a1, a2, a3⟩ q
        · rw [if_neg a3]; exact ⟨rfl, h1⟩
      · rw [if_neg a2]; exact ⟨rfl, h1⟩
    · rw [if_neg a1]; exact ⟨rfl, h1⟩
  refine t_X7_at hR (c_isThing hR (by rw [hT.2.1]; exact hT.1.1) ⟨rfl, ?_⟩)
  rw [hT.2.1]
  by_cases a1 : bR 0 ((s.1 164 19).toInt - 1) p = true
  rotate_left
  · rw [if_neg a1]; exact rej (fun q => a1 q.1)
  rw [if_pos a1]
  refine c_isMinute hR ⟨rfl, ?_⟩
  by_cases a2 : bR 0 239 m = true
  rotate_left
  · rw [if_neg a2]; exact rej (fun q => a2 q.2.1)
  rw [if_pos a2]
  by_cases a3 : bR 0 3 w = true
  rotate_left
  · have r0 := rej (fun q => a3 q.2.2)
    rw [bR_t] at a3
    simp only [ti_lt, ti_le, til]
    by_cases u : w.toInt < 0
    · rw [if_pos u]; exact r0
    · rw [if_neg u, if_neg (by omega)]; exact r0
  have b3 := bR_t.mp a3
  rw [if_neg (by rw [ti_lt, til.1]; omega), if_pos (by rw [ti_le]; simp only [til]; omega)]
  obtain ⟨t1, t2, hv⟩ := thN hT a1
  have ho := hT.2.2.1 _ t1
  refine ⟨hv, ?_⟩
  have run : ∀ r0 : Int32, (w = 3 → r0 = s.1 172 p.toNatClampNeg) → (¬ w = 3 → (s.1 172 p.toNatClampNeg = 0 ∨ pIs s.1 p.toNatClampNeg m = false) → r0 = -2147483648) → (¬ w = 3 → ¬ s.1 172 p.toNatClampNeg = 0 → pIs s.1 p.toNatClampNeg m = true → r0 = if w = 0 then pX s.1 p.toNatClampNeg m else if w = 1 then pY s.1 p.toNatClampNeg m else pZ s.1 p.toNatClampNeg m) →
      zc l g (d + 4) M_X8_at [.ref 164, .int p, .int m, .int w] s (zKi fun r' s10 => r0 = r' ∧ Q s10) := by
    intro r0 c1 c2 c3
    refine t_X8_at hR (m_isThing hR hT.1.1 ⟨rfl, ?_⟩)
    rw [if_pos a1]
    refine m_isMinute hR ⟨rfl, ?_⟩
    rw [if_pos a2, e3, if_pos a3]
    by_cases w3 : w = 3
    · rw [if_pos w3]; exact ⟨hv, c1 w3, h1⟩
    rw [if_neg w3]
    refine ⟨hv, ?_⟩
    by_cases k0 : s.1 172 p.toNatClampNeg = 0
    · rw [if_pos k0]; exact ⟨c2 w3 (Or.inl k0), h1⟩
    rw [if_neg k0]
    refine m_isAt hR hH.1 hv ?_
    intro s' hE hp
    refine ⟨zE_R hE, ?_⟩
    by_cases kI : pIs s.1 p.toNatClampNeg m = true
    · rw [if_pos kI]
      have c := c3 w3 k0 kI
      obtain ⟨p1, p2, p3⟩ := hp kI
      by_cases w0 : w = 0
      · rw [if_pos w0]; rw [if_pos w0] at c; exact ⟨by rw [c, p1], h2 _ hE⟩
      · rw [if_neg w0]; rw [if_neg w0] at c
        by_cases w1 : w = 1
        · rw [if_pos w1]; rw [if_pos w1] at c; exact ⟨by rw [c, p2], h2 _ hE⟩
        · rw [if_neg w1]; rw [if_neg w1] at c; exact ⟨by rw [c, p3], h2 _ hE⟩
    · rw [if_neg kI]
      exact ⟨c2 w3 (Or.inr (Bool.eq_false_iff.mpr kI)), h2 _ hE⟩
  by_cases w3 : w = 3
  · rw [if_pos w3, ho.1]
    exact run _ (fun _ => rfl) (fun q => absurd w3 q) (fun q => absurd w3 q)
  rw [if_neg w3]
  refine c_isThere hR hH t2 ho a2 ⟨rfl, ?_⟩
  by_cases k0 : s.1 172 p.toNatClampNeg = 0
  · rw [decide_eq_true k0, if_neg (by simp)]
    exact run _ (fun q => absurd q w3) (fun _ _ => rfl) (fun _ q => absurd k0 q)
  rw [decide_eq_false k0, Bool.not_false, Bool.true_and]
  by_cases kI : pIs s.1 p.toNatClampNeg m = true
  · rw [if_pos kI]
    have nf : ¬ (s.1 172 p.toNatClampNeg = 0 ∨ pIs s.1 p.toNatClampNeg m = false) := by
      rintro (q | q)
      · exact k0 q
      · rw [kI] at q; cases q
    by_cases w0 : w = 0
    · rw [if_pos w0]
      refine c_xIn hR t2 ho k0 ⟨rfl, ?_⟩
      exact run _ (fun q => absurd q w3) (fun _ q => absurd q nf) (fun _ _ _ => by rw [if_pos w0])
    rw [if_neg w0]
    by_cases w1 : w = 1
    · rw [if_pos w1]
      refine c_yIn hR t2 ho k0 ⟨rfl, ?_⟩
      exact run _ (fun q => absurd q w3) (fun _ q => absurd q nf) (fun _ _ _ => by rw [if_neg w0, if_pos w1])
    rw [if_neg w1]
    refine c_zIn hR hH t2 ho k0 ⟨rfl, ?_⟩
    exact run _ (fun q => absurd q w3) (fun _ q => absurd q nf) (fun _ _ _ => by rw [if_neg w0, if_neg w1])
  · rw [if_neg kI]
    exact run _ (fun q => absurd q w3) (fun _ _ => rfl) (fun _ _ q => absurd q kI)
end OA
