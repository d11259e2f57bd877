/-! ===== telling: both sides ===== -/
theorem teN {I : zM2} {p : Int32} (hL : RelL I) (h : bR 0 ((I 164 24).toInt - 1) p = true) : p.toNatClampNeg < nK I ∧ p.toNatClampNeg < 60 ∧ vp_in p 60 := by
  have b := bR_t.mp h
  have h1 := hL.1.2
  have h2 := ti_tn hL.1.1
  have h3 := ti_tn b.1
  refine ⟨by unfold nK; omega, by omega, vin_i b.1 (by omega)⟩
section OTG
variable {l : Launch} {g : zG} {d : Nat} {s : zS}
theorem op_telling (hR : zRok s) {p w : Int32} {Q : zS → Prop} (hL : RelL s.1) (h1 : Q s) :
    zc l g (d + 2) M_X7_telling [.ref 64, .int p, .int w] s (zKi fun r s5 => zc l g (d + 2) M_X8_telling [.ref 164, .int p, .int w] s5 (zKi fun r' s10 => r = r' ∧ Q s10)) := by
  have e3 : zinr w.toInt64 0 8 = bR 0 8 w := zq1 rfl rfl
  refine t_X7_telling hR (c_isTelling hR (by rw [hL.2.1]; exact hL.1.1) ⟨rfl, ?_⟩)
  rw [hL.2.1]
  by_cases a1 : bR 0 ((s.1 164 24).toInt - 1) p = true
  rotate_left
  · rw [if_neg a1]
    refine t_X8_telling hR (m_isTelling hR hL.1.1 ⟨rfl, ?_⟩)
    rw [if_neg a1]; exact ⟨rfl, h1⟩
  rw [if_pos a1]
  obtain ⟨t1, t2, hv⟩ := teN hL a1
  have hl := hL.2.2 _ t1
  refine ⟨hv, ?_⟩
  have run : ∀ r : Int32, (bR 0 8 w = true → r = s.1 (183 + p.toNatClampNeg) w.toNatClampNeg) → (¬ bR 0 8 w = true → r = -1) → zc l g (d + 2) M_X8_telling [.ref 164, .int p, .int w] s (zKi fun r' s10 => r = r' ∧ Q s10) := by
    intro r c1 c2
    refine t_X8_telling hR (m_isTelling hR hL.1.1 ⟨rfl, ?_⟩)
    rw [if_pos a1, e3]
    by_cases a3 : bR 0 8 w = true
    · rw [if_pos a3]
      have b := bR_t.mp a3
      exact ⟨hv, vin_i b.1 (by omega), c1 a3, h1⟩
    · rw [if_neg a3]; exact ⟨c2 a3, h1⟩
  have hb : 104 ≤ 104 + p.toNatClampNeg ∧ 104 + p.toNatClampNeg < 164 := by omega
  refine t_X5_part hR hb ?_
  have one : ∀ (c : Int32) (j : Nat), c.toNatClampNeg = j → bR 0 8 c = true → j < 9 → w = c → zc l g (d + 2) M_X8_telling [.ref 164, .int p, .int w] s (zKi fun r' s10 => s.1 (104 + p.toNatClampNeg) j = r' ∧ Q s10) := by
    intro c j e b hj ew
    subst ew
    exact run _ (fun _ => by rw [e]; exact hl.1 j hj) (fun q => absurd b q)
  by_cases w0 : w = 0
  · rw [if_pos w0]; exact ⟨rfl, one 0 0 rfl (by decide) (by decide) w0⟩
  rw [if_neg w0]
  by_cases w1 : w = 1
  · rw [if_pos w1]; exact ⟨rfl, one 1 1 rfl (by decide) (by decide) w1⟩
  rw [if_neg w1]
  by_cases w2 : w = 2
  · rw [if_pos w2]; exact ⟨rfl, one 2 2 rfl (by decide) (by decide) w2⟩
  rw [if_neg w2]
  by_cases w3 : w = 3
  · rw [if_pos w3]; exact ⟨rfl, one 3 3 rfl (by decide) (by decide) w3⟩
  rw [if_neg w3]
  by_cases w4 : w = 4
  · rw [if_pos w4]; exact ⟨rfl, one 4 4 rfl (by decide) (by decide) w4⟩
  rw [if_neg w4]
  by_cases w5 : w = 5
  · rw [if_pos w5]; exact ⟨rfl, one 5 5 rfl (by decide) (by decide) w5⟩
  rw [if_neg w5]
  by_cases w6 : w = 6
  · rw [if_pos w6]; exact ⟨rfl, one 6 6 rfl (by decide) (by decide) w6⟩
  rw [if_neg w6]
  by_cases w7 : w = 7
  · rw [if_pos w7]; exact ⟨rfl, one 7 7 rfl (by decide) (by decide) w7⟩
  rw [if_neg w7]
  by_cases w8 : w = 8
  · rw [if_pos w8]; exact ⟨rfl, one 8 8 rfl (by decide) (by decide) w8⟩
  rw [if_neg w8]
  refine ⟨rfl, run _ (fun q => ?_) (fun _ => rfl)⟩
  exfalso
  have b := bR_t.mp q
  simp only [ti_eq, til] at w0 w1 w2 w3 w4 w5 w6 w7 w8
  omega
end OTG
