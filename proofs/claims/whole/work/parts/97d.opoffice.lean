/-! ===== office: both sides ===== -/
def kdF (q : rQ) (c : Int32) : Int32 := if c = -1 then 0 else (q.2.2.getD c.toNatClampNeg (0, 0, 0)).1
def qS5 : Nat → Nat → Prop := fun o _ => o = 84 ∨ o = 90 ∨ o = 91 ∨ o = 260 ∨ o = 261
theorem qS_o {s s' : zS} (h : zE qS5 s s') : zE ofS s s' := zE_m h (fun o j w => by unfold qS5 at w; unfold ofS; omega)
theorem rqM_o {s s' : zS} {q : rQ} (hE : zE ofS s s') (h : rqM s.1 q) : rqM s'.1 q :=
  rqM_c (fun k => hE.2 _ _ (by unfold ofS fS; omega)) (fun k => hE.2 _ _ (by unfold ofS fS; omega)) (fun k => hE.2 _ _ (by unfold ofS fS; omega)) (fun k => hE.2 _ _ (by unfold ofS fS; omega)) (hE.2 _ _ (by unfold ofS fS; omega)) (hE.2 _ _ (by unfold ofS fS; omega)) h
theorem rqC_o {s s' : zS} {q : rQ} {o : Nat} (ho : o = 79 ∨ o = 85) (hE : zE ofS s s') (h : rqC o s.1 q) : rqC o s'.1 q :=
  rqC_c (fun k => hE.2 _ _ (by unfold ofS fS; omega)) (fun k => hE.2 _ _ (by unfold ofS fS; omega)) (fun k => hE.2 _ _ (by unfold ofS fS; omega)) (fun k => hE.2 _ _ (by unfold ofS fS; omega)) (fun k => hE.2 _ _ (by unfold ofS fS; omega)) h
theorem RelQ_o {s s' : zS} (hR : zRok s) (hE : zE ofS s s') (h : RelQ s) : RelQ s' :=
  RelQ_c hE (fun p k w => by unfold ofS fS at w; unfold rqS; have := hR.2; omega) h
theorem e012 {p : Int32} (h : bR 0 2 p = true) : p = 0 ∨ p = 1 ∨ p = 2 := by
  have b := bR_t.mp h
  have e1 : (1 : Int32).toInt = 1 := rfl
  have e2 : (2 : Int32).toInt = 2 := rfl
  have e0 : (0 : Int32).toInt = 0 := rfl
  simp only [ti_eq, e0, e1, e2]
  omega
section OOF
variable {l : Launch} {g : zG} {d : Nat} {s : zS} {p0 p1 p2 p3 : Int32}
theorem op_office {Q : zS → Prop} (hC : Core s) (hQ : RelQ s) (h1 : ∀ s', zE ofS s s' → Core s' → Q s') :
    zc l g (d + 9) M_X7_office [.ref 64, .int p0, .int p1, .int p2, .int p3] s (zKi fun r s5 => zc l g (d + 9) M_X8_office [.ref 164, .int p0, .int p1, .int p2, .int p3] s5 (zKi fun r' s10 => r = r' ∧ Q s10)) := by
  have hL := hC.2.2.2.2.2.1
  have hR := hC.1
  obtain ⟨q, hw, h4, hqc, hqm⟩ := hQ
  have hrn := rn_or hR
  have hl12 := hw.1
  have bad : ¬ (bR 0 ((s.1 164 24).toInt - 1) p0 = true ∧ bR 0 99 p1 = true ∧ bR 0 99 p2 = true ∧ bR 0 2 p3 = true) → zc l g (d + 9) M_X8_office [.ref 164, .int p0, .int p1, .int p2, .int p3] s (zKi fun r' s10 => -1 = r' ∧ Q s10) := by
    intro w
    refine t_X8_office (d := d + 8) hR (m_isTelling (d := d + 7) hR hL.1.1 ⟨rfl, ?_⟩)
    by_cases a1 : bR 0 ((s.1 164 24).toInt - 1) p0 = true
    rotate_left
    · rw [if_neg a1]; exact ⟨rfl, h1 s zE_r hC⟩
    rw [if_pos a1]
    refine m_areLater (d := d + 7) hR ⟨rfl, ?_⟩
    by_cases a2 : (bR 0 99 p1 && bR 0 99 p2) = true
    rotate_left
    · rw [if_neg a2]; exact ⟨rfl, h1 s zE_r hC⟩
    rw [if_pos a2, show zinr p3.toInt64 0 2 = bR 0 2 p3 from bR_z]
    rw [Bool.and_eq_true] at a2
    rw [if_neg (fun u => w ⟨a1, a2.1, a2.2, u⟩)]
    exact ⟨rfl, h1 s zE_r hC⟩
  refine t_X7_office (d := d + 8) hR rfl hrn (c_isTelling hR (by rw [hL.2.1]; exact hL.1.1) ⟨rfl, ?_⟩)
  rw [hL.2.1]
  by_cases a1 : bR 0 ((s.1 164 24).toInt - 1) p0 = true
  rotate_left
  · rw [if_neg a1]; exact bad (fun w => a1 w.1)
  rw [if_pos a1]
  refine c_isLater hR ⟨rfl, ?_⟩
  by_cases a2 : bR 0 99 p1 = true
  rotate_left
  · rw [if_neg a2]; exact bad (fun w => a2 w.2.1)
  rw [if_pos a2]
  refine c_isLater hR ⟨rfl, ?_⟩
  by_cases a3 : bR 0 99 p2 = true
  rotate_left
  · rw [if_neg a3]; exact bad (fun w => a3 w.2.2.1)
  rw [if_pos a3]
  by_cases a4 : bR 0 2 p3 = true
  rotate_left
  · have e2 : (2 : Int32).toInt = 2 := rfl
    by_cases c0 : p3 < 0
    · rw [if_pos c0]; exact bad (fun w => a4 w.2.2.2)
    · rw [if_neg c0, if_neg (fun c2 => a4 (bR_t.mpr (by rw [ti_lt, til.1] at c0; rw [ti_le, e2] at c2; omega)))]
      exact bad (fun w => a4 w.2.2.2)
  have b4 := bR_t.mp a4
  rw [if_neg (by rw [ti_lt, til.1]; omega), if_pos (by rw [ti_le, show (2 : Int32).toInt = 2 from rfl]; omega)]
  obtain ⟨t1, t2, hv⟩ := teN hL a1
  have hl := hL.2.2 _ t1
  have hev : ∀ j, j < 4 → vlO s.1 p0.toNatClampNeg p1 p2 j = gwV (s.1 (183 + p0.toNatClampNeg) 7) (s.1 (183 + p0.toNatClampNeg) 8) p1 p2 j := by
    intro j hj
    have : j = 0 ∨ j = 1 ∨ j = 2 ∨ j = 3 := by omega
    rcases this with e | e | e | e <;> rw [e] <;> rfl
  obtain ⟨c, hc⟩ : ∃ c, c = fh (hld (vlO s.1 p0.toNatClampNeg p1 p2) q) q.2.2.length 0 := ⟨_, rfl⟩
  have hcr := fh_r (hld (vlO s.1 p0.toNatClampNeg p1 p2) q) q.2.2.length 0
  rw [← hc] at hcr
  have e255 : ∀ s' : zS, rqM s'.1 q → ¬ c = -1 → vp_in c 12 ∧ vp_in c 13 ∧ s'.1 255 c.toNatClampNeg = kdF q c := by
    intro s' hm' hne
    rcases hcr with w | ⟨j, -, w2, w3⟩
    · exact absurd w hne
    · have hj : j < q.2.2.length := by omega
      refine ⟨by rw [w3]; exact vp_in_nI (by omega) (by decide), by rw [w3]; exact vp_in_nI (by omega) (by decide), ?_⟩
      unfold kdF
      rw [if_neg hne, w3, nI_clamp (by omega)]
      exact (hm'.2.2.2 j hj).1
  have run : ∀ (r : Int32) (s9 : zS), zE ofS s s9 → Core s9 → (p3 = 0 → r = kdF q c) → (p3 = 1 → r = c) → (p3 = 2 → r = zb (hsB s.1 (kdF q c) (fitF s.1 p0.toNatClampNeg) (nT s.1) 0)) → zc l g (d + 9) M_X8_office [.ref 164, .int p0, .int p1, .int p2, .int p3] s9 (zKi fun r' s10 => r = r' ∧ Q s10) := by
    intro r s9 hE hC9 r0 r1 r2
    have e24 := (nK_g okS_o.2 hE).2
    have e183 : ∀ j, s9.1 (183 + p0.toNatClampNeg) j = s.1 (183 + p0.toNatClampNeg) j := fun j => hE.2 _ _ (by unfold ofS fS; omega)
    refine t_X8_office (d := d + 8) hC9.1 (m_isTelling (d := d + 7) hC9.1 (by rw [e24]; exact hL.1.1) ⟨rfl, ?_⟩)
    rw [e24, if_pos a1]
    refine m_areLater (d := d + 7) hC9.1 ⟨rfl, ?_⟩
    rw [if_pos (by rw [a2, a3]; rfl), show zinr p3.toInt64 0 2 = bR 0 2 p3 from bR_z, if_pos a4, e183, e183]
    refine ⟨hv, hv, m_lays hC9.1 (fun s7 hE7 hv7 => ⟨zE_R hE7, hv, hv, hv, ?_⟩)⟩
    intro v11 e11
    have hE7' : zE qS5 s9 s7 := zE_m hE7 (fun o j w => by unfold qS5; omega)
    have q7 := rqM_o (qS_o hE7') (rqM_o hE hqm)
    rw [q7.2.2.1] at e11
    rw [e11]
    have e7 : ∀ j, s7.1 (183 + p0.toNatClampNeg) j = s.1 (183 + p0.toNatClampNeg) j := fun j => by rw [hE7.2 _ _ (by omega), e183]
    rw [e7, e7, e7]
    have hv8 := v3 (s := s7) (o := 261) (p := s.1 (183 + p0.toNatClampNeg) 1) (q := s.1 (183 + p0.toNatClampNeg) 3) (r := s.1 (183 + p0.toNatClampNeg) 4) hv7 (w := vlO s.1 p0.toNatClampNeg p1 p2) hev rfl rfl rfl
    have hE8 : zE qS5 s7 (zI (zI (zI s7 261 4 (s.1 (183 + p0.toNatClampNeg) 1)) 261 5 (s.1 (183 + p0.toNatClampNeg) 3)) 261 6 (s.1 (183 + p0.toNatClampNeg) 4)) := zE_i (zE_i (zE_i0 (by unfold qS5; omega)) (by unfold qS5; omega)) (by unfold qS5; omega)
    have hR8 : zRok (zI (zI (zI s7 261 4 (s.1 (183 + p0.toNatClampNeg) 1)) 261 5 (s.1 (183 + p0.toNatClampNeg) 3)) 261 6 (s.1 (183 + p0.toNatClampNeg) 4)) := zE_K hE8 (zE_K hE7 hC9.1)
    generalize zI (zI (zI s7 261 4 (s.1 (183 + p0.toNatClampNeg) 1)) 261 5 (s.1 (183 + p0.toNatClampNeg) 3)) 261 6 (s.1 (183 + p0.toNatClampNeg) 4) = s8 at *
    have hE98 := zE_t hE7' hE8
    have key := m_first (l := l) (g := g) (d := d + 6) (p0 := p0) (p3 := p3) (K := fun r' s10 => r = r' ∧ Q s10) hR8 hv8 hw h4 (rqM_o (qS_o hE8) q7) (fun s11 hE11 => ?_) q.2.2.length 0 s8 (by omega) zE_r
    · exact key
    have hE911 : zE qS5 s9 s11 := zE_t hE98 (zE_m hE11 (fun o j w => by unfold pilS at w; unfold qS5; omega))
    have hC11 : Core s11 := Core_q hE911 hC9
    have hE011 : zE ofS s s11 := zE_t hE (qS_o hE911)
    have q11 := rqM_o hE011 hqm
    rw [← hc]
    have fit : ∀ kd, kd = kdF q c → p3 = 2 → zc l g (d + 8) M_X8_fitting [.ref 164, .int p0] s11 (zKi (fun r5 s4 => s4.2.2.1 = s11.2.2.1 ∧ zt l g (d + 9) M_X8_office 189 [.ref 164, zJ, zJ, zJ, zJ, zJ, .int kd, .int r5, .int 0, .int 0] [] s4 (zKi fun r' s10 => r = r' ∧ Q s10))) := by
      intro kd ek e3
      refine m_fitG (d := d + 1) okS_o hE011 hC11 hv rfl t1 (fun s12 hE12 hE012 hC12 => ⟨zE_R hE12, ?_⟩)
      refine m_hasty_0 (d := d + 8) hC12 (nT s.1) 0 (by rw [(nT_g okS_o.2 hE012).1]; omega) ?_
      rw [hsB_c (fun t => eqM_g okS_o.2 hE012 172 t (by simp [mS])), ek]
      exact ⟨r2 e3, h1 s12 hE012 hC12⟩
    refine t_X8_office_111 (d := d + 8) hC11.1 ?_
    rw [if_pos (by decide)]
    by_cases cm : c = -1
    · rw [if_pos cm]
      have ek : (0 : Int32) = kdF q c := by unfold kdF; rw [if_pos cm]
      rcases e012 a4 with e3 | e3 | e3
      · rw [e3, if_neg (by decide), if_pos rfl]; exact ⟨(r0 e3).trans ek.symm, h1 s11 hE011 hC11⟩
      · rw [e3, if_neg (by decide), if_neg (by decide)]; exact ⟨r1 e3, h1 s11 hE011 hC11⟩
      · rw [if_pos (by rw [e3]; decide)]; exact fit 0 ek e3
    · rw [if_neg cm]
      obtain ⟨-, v13, ek⟩ := e255 s11 q11 cm
      refine ⟨v13, ?_⟩
      rcases e012 a4 with e3 | e3 | e3
      · rw [e3, if_neg (by decide), if_pos rfl]; exact ⟨(r0 e3).trans ek.symm, h1 s11 hE011 hC11⟩
      · rw [e3, if_neg (by decide), if_neg (by decide)]; exact ⟨r1 e3, h1 s11 hE011 hC11⟩
      · rw [if_pos (by rw [e3]; decide)]; exact fit _ ek e3
  rw [hl.1 7 (by decide), hl.1 8 (by decide)]
  refine ⟨hv, c_values hR (fun s8 hE8 hv8 => ⟨zE_R hE8, ?_⟩)⟩
  have e8 : ∀ j, j < 9 → s8.1 (104 + p0.toNatClampNeg) j = s.1 (183 + p0.toNatClampNeg) j := fun j hj => by rw [hE8.2 _ _ (by omega)]; exact hl.1 j hj
  rw [e8 1 (by decide), e8 3 (by decide), e8 4 (by decide)]
  have hv9 := v3 (s := s8) (o := 91) (p := s.1 (183 + p0.toNatClampNeg) 1) (q := s.1 (183 + p0.toNatClampNeg) 3) (r := s.1 (183 + p0.toNatClampNeg) 4) hv8 (w := vlO s.1 p0.toNatClampNeg p1 p2) hev rfl rfl rfl
  have hE9 : zE qS5 s (zI (zI (zI s8 91 4 (s.1 (183 + p0.toNatClampNeg) 1)) 91 5 (s.1 (183 + p0.toNatClampNeg) 3)) 91 6 (s.1 (183 + p0.toNatClampNeg) 4)) := zE_t (zE_m hE8 (fun o j w => by unfold qS5; omega)) (zE_i (zE_i (zE_i0 (by unfold qS5; omega)) (by unfold qS5; omega)) (by unfold qS5; omega))
  have r9 : (zI (zI (zI s8 91 4 (s.1 (183 + p0.toNatClampNeg) 1)) 91 5 (s.1 (183 + p0.toNatClampNeg) 3)) 91 6 (s.1 (183 + p0.toNatClampNeg) 4)).2.2.1 = s8.2.2.1 := rfl
  generalize zI (zI (zI s8 91 4 (s.1 (183 + p0.toNatClampNeg) 1)) 91 5 (s.1 (183 + p0.toNatClampNeg) 3)) 91 6 (s.1 (183 + p0.toNatClampNeg) 4) = s9 at *
  refine c_first (d := d + 4) hrn (zE_K hE9 hR) hv9 hw h4 (rqC_o hrn (qS_o hE9) hqc) (fun s10 hE10 => ⟨(zE_R hE10).trans r9, ?_⟩)
  rw [← hc]
  have hE010 : zE qS5 s s10 := zE_t hE9 (zE_m hE10 (fun o j w => by unfold vaS at w; unfold qS5; omega))
  have hC10 : Core s10 := Core_q hE010 hC
  have hO10 := qS_o hE010
  have hasty : ∀ kd, kd = kdF q c → p3 = 2 → zc l g (d + 8) M_X7_isHasty [.ref 64, .ref (104 + p0.toNatClampNeg), .int kd] s10 (zKz (fun b16 s15 => s15.2.2.1 = s10.2.2.1 ∧ (if b16 = true then zc l g (d + 9) M_X8_office [.ref 164, .int p0, .int p1, .int p2, .int p3] s15 (zKi fun r' s10 => 1 = r' ∧ Q s10) else zc l g (d + 9) M_X8_office [.ref 164, .int p0, .int p1, .int p2, .int p3] s15 (zKi fun r' s10 => 0 = r' ∧ Q s10)))) := by
    intro kd ek e3
    refine t_X7_isHasty (d := d + 7) hC10.1 (by omega) (c_fitG (d := d + 1) okS_o hO10 hC10 t1 (fun s12 hE12 hE012 hC12 => ⟨zE_R hE12, ?_⟩))
    refine c_hasty_9 (d := d + 7) hC12 (nT s.1) 0 (by rw [(nT_g okS_o.2 hE012).1]; omega) ⟨zE_R hE12, ?_⟩
    rw [hsB_c (fun t => eqM_g okS_o.2 hE012 172 t (by simp [mS])), ek]
    by_cases hb : hsB s.1 (kdF q c) (fitF s.1 p0.toNatClampNeg) (nT s.1) 0 = true
    · rw [if_pos hb]
      exact run 1 s12 hE012 hC12 (fun w => by rw [e3] at w; exact absurd w (by decide)) (fun w => by rw [e3] at w; exact absurd w (by decide)) (fun _ => by rw [hb]; rfl)
    · rw [if_neg hb]
      exact run 0 s12 hE012 hC12 (fun w => by rw [e3] at w; exact absurd w (by decide)) (fun w => by rw [e3] at w; exact absurd w (by decide)) (fun _ => by rw [Bool.eq_false_iff.mpr hb]; rfl)
  rcases e012 a4 with e3 | e3 | e3
  · rw [if_neg (by rw [e3]; decide)]
    by_cases cm : c = -1
    · rw [if_pos cm, if_pos e3]
      exact run 0 s10 hO10 hC10 (fun _ => by unfold kdF; rw [if_pos cm]) (fun w => by rw [e3] at w; exact absurd w (by decide)) (fun w => by rw [e3] at w; exact absurd w (by decide))
    · rw [if_neg cm]
      obtain ⟨v12, -, -⟩ := e255 s hqm cm
      refine ⟨v12, fun v e => ?_⟩
      rw [if_pos e3]
      refine run v s10 hO10 hC10 (fun _ => ?_) (fun w => by rw [e3] at w; exact absurd w (by decide)) (fun w => by rw [e3] at w; exact absurd w (by decide))
      rcases hcr with w | ⟨j, -, w2, w3⟩
      · exact absurd w cm
      · rw [e]
        unfold kdF
        rw [if_neg cm, w3, nI_clamp (by omega)]
        exact ((rqC_o hrn hO10 hqc).2.2.2.2 j (by omega)).1
  · rw [if_pos e3]
    exact run c s10 hO10 hC10 (fun w => by rw [e3] at w; exact absurd w (by decide)) (fun _ => rfl) (fun w => by rw [e3] at w; exact absurd w (by decide))
  · rw [if_neg (by rw [e3]; decide)]
    by_cases cm : c = -1
    · rw [if_pos cm, if_neg (by rw [e3]; decide)]
      exact hasty 0 (by unfold kdF; rw [if_pos cm]) e3
    · rw [if_neg cm]
      obtain ⟨v12, -, -⟩ := e255 s hqm cm
      refine ⟨v12, fun v e => ?_⟩
      rw [if_neg (by rw [e3]; decide)]
      refine hasty v ?_ e3
      rcases hcr with w | ⟨j, -, w2, w3⟩
      · exact absurd w cm
      · rw [e]
        unfold kdF
        rw [if_neg cm, w3, nI_clamp (by omega)]
        exact ((rqC_o hrn hO10 hqc).2.2.2.2 j (by omega)).1
end OOF
