/-! ===== seen: both sides ===== -/
section OSC
variable {l : Launch} {g : zG} {d : Nat} {s : zS}
theorem op_seen (hR : zRok s) {p q m w : Int32} {Q : zS → Prop} (hH : RelH s.1) (hT : RelT s.1) (hS : RelS s.1) (h2 : ∀ s', zE lkS s s' → Q s') :
    zc l g (d + 6) M_X7_seen [.ref 64, .int p, .int q, .int m, .int w] s (zKi fun r s5 => zc l g (d + 6) M_X8_seen [.ref 164, .int p, .int q, .int m, .int w] s5 (zKi fun r' s10 => r = r' ∧ Q s10)) := by
  have rej : ¬ (bR 0 ((s.1 164 19).toInt - 1) p = true ∧ bR 0 ((s.1 164 18).toInt - 1) q = true ∧ bR 0 239 m = true ∧ bR 0 3 w = true) → zc l g (d + 6) M_X8_seen [.ref 164, .int p, .int q, .int m, .int w] s (zKi fun r' s10 => (-2147483648 : Int32) = r' ∧ Q s10) :=
    fun z => m_seen hR hH hT hS (fun _ => ⟨rfl, h2 s zE_r⟩) (fun z2 => absurd z2 z)
  refine t_X7_seen hR (c_isThing hR (by rw [hT.2.1]; exact hT.1.1) ⟨rfl, ?_⟩)
  rw [hT.2.1]
  by_cases a1 : bR 0 ((s.1 164 19).toInt - 1) p = true
  rotate_left
  · rw [if_neg a1]; exact rej (fun z => a1 z.1)
  rw [if_pos a1]
  refine c_isSeer hR (by rw [hS.2.1]; exact hS.1.1) ⟨rfl, ?_⟩
  rw [hS.2.1]
  by_cases a2 : bR 0 ((s.1 164 18).toInt - 1) q = true
  rotate_left
  · rw [if_neg a2]; exact rej (fun z => a2 z.2.1)
  rw [if_pos a2]
  refine c_isMinute hR ⟨rfl, ?_⟩
  by_cases a3 : bR 0 239 m = true
  rotate_left
  · rw [if_neg a3]; exact rej (fun z => a3 z.2.2.1)
  rw [if_pos a3]
  by_cases a4 : bR 0 3 w = true
  rotate_left
  · have r0 := rej (fun z => a4 z.2.2.2)
    rw [bR_t] at a4
    simp only [ti_lt, ti_le, til]
    by_cases u : w.toInt < 0
    · rw [if_pos u]; exact r0
    · rw [if_neg u, if_neg (by omega)]; exact r0
  have b3 := bR_t.mp a4
  rw [if_neg (by rw [ti_lt, til.1]; omega), if_pos (by rw [ti_le]; simp only [til]; omega)]
  obtain ⟨t1, t2, hv⟩ := thN hT a1
  obtain ⟨u1, hw⟩ := seN hS a2
  have ho := hT.2.2.1 _ t1
  have sv := RelS_v hS u1
  refine ⟨hv, hw, ?_⟩
  have fin : ∀ (r : Int32) (s5 : zS), zE s68 s s5 → r = seenF s.1 p.toNatClampNeg q.toNatClampNeg m w → zc l g (d + 6) M_X8_seen [.ref 164, .int p, .int q, .int m, .int w] s5 (zKi fun r' s10 => r = r' ∧ Q s10) := by
    intro r s5 hE hr
    have sa := same68 hE p.toNatClampNeg
    have e19 : s5.1 164 19 = s.1 164 19 := z68 hE (by decide)
    have e18 : s5.1 164 18 = s.1 164 18 := z68 hE (by decide)
    have hT5 : RelT s5.1 := RelT_c (fun o a b k => z68 hE (by omega)) (fun o a b k => z68 hE (by omega)) e19 (z68 hE (by decide)) hT
    have hS5 : RelS s5.1 := RelS_c e18 (z68 hE (by decide)) (fun k => z68 hE (by decide)) (fun k => z68 hE (by decide)) (fun k => z68 hE (by decide)) hS
    refine m_seen (zE_K hE hR) (RelH68 hE hH) hT5 hS5 (fun z => ?_) (fun _ s' hE2 => ⟨?_, h2 _ (zE_t (lk68 hE) (lkAt hE2))⟩)
    · rw [e19, e18] at z; exact absurd ⟨a1, a2, a3, a4⟩ z
    · have e70 : s5.1 170 q.toNatClampNeg = s.1 170 q.toNatClampNeg := z68 hE (by decide)
      have e71 : s5.1 171 q.toNatClampNeg = s.1 171 q.toNatClampNeg := z68 hE (by decide)
      rw [hr]
      unfold seenF
      rw [shF_c sa e70 e71, litF_c sa, wyF_c sa e70 e71, slF_c sa e70 e71, (sT sa).1, pX_c sa, pY_c sa, pZ_c sa, hidF_c sa.1 sa.2.1 e70 e71]
  refine c_look (d := d + 2) hR (i := q.toNatClampNeg) hH t2 ho a3 sv.2.2.2.2.1 sv.2.2.2.2.2.1 ?_ ?_
  · intro hL s' hE
    refine ⟨zE_R hE, ?_⟩
    have eS : shF s.1 p.toNatClampNeg q.toNatClampNeg m = false := by unfold shF; rw [hL]; rfl
    by_cases w2 : w = 2
    · rw [if_pos w2, if_neg (by decide)]
      exact fin _ _ hE (by unfold seenF; rw [if_pos w2, eS]; rfl)
    · rw [if_neg w2, if_neg (by decide)]
      exact fin _ _ hE (by unfold seenF; rw [if_neg w2, hL]; rfl)
  · intro hL s' hE k1 k2 k3 k4
    refine ⟨zE_R hE, ?_⟩
    have eS : shF s.1 p.toNatClampNeg q.toNatClampNeg m = (decide (s.1 172 p.toNatClampNeg = 0) || decide (hidF s.1 q.toNatClampNeg (pX s.1 p.toNatClampNeg m) (pY s.1 p.toNatClampNeg m) (pZ s.1 p.toNatClampNeg m) = -1)) := by unfold shF; rw [hL, Bool.true_and]
    by_cases w2 : w = 2
    · rw [if_pos w2, if_pos rfl]
      refine c_hid (d := d + 4) (zE_K hE hR) hE hH ho hL k3 k4 ⟨rfl, ?_⟩
      by_cases h0 : s.1 172 p.toNatClampNeg = 0
      · rw [if_pos h0, if_pos rfl]
        exact fin _ _ hE (by unfold seenF; rw [if_pos w2, eS, decide_eq_true h0]; rfl)
      · rw [if_neg h0]
        rw [decide_eq_false h0, Bool.false_or] at eS
        by_cases c : hidF s.1 q.toNatClampNeg (pX s.1 p.toNatClampNeg m) (pY s.1 p.toNatClampNeg m) (pZ s.1 p.toNatClampNeg m) = -1
        · rw [if_pos c]
          exact fin _ _ hE (by unfold seenF; rw [if_pos w2, eS, decide_eq_true c]; rfl)
        · rw [if_neg c]
          exact fin _ _ hE (by unfold seenF; rw [if_pos w2, eS, decide_eq_false c]; rfl)
    · rw [if_neg w2, if_pos rfl]
      have eF : seenF s.1 p.toNatClampNeg q.toNatClampNeg m w = (if w = 0 then wyF s.1 p.toNatClampNeg q.toNatClampNeg m else if w = 1 then slF s.1 p.toNatClampNeg q.toNatClampNeg m else if s.1 172 p.toNatClampNeg = 0 then -1 else hidF s.1 q.toNatClampNeg (pX s.1 p.toNatClampNeg m) (pY s.1 p.toNatClampNeg m) (pZ s.1 p.toNatClampNeg m)) := by unfold seenF; rw [if_neg w2, if_pos hL]
      by_cases w0 : w = 0
      · rw [if_pos w0]
        exact fin _ _ hE (by rw [eF, if_pos w0, k1])
      rw [if_neg w0]
      by_cases w1 : w = 1
      · rw [if_pos w1]
        exact fin _ _ hE (by rw [eF, if_neg w0, if_pos w1, k2])
      rw [if_neg w1]
      refine c_hid (d := d + 4) (zE_K hE hR) hE hH ho hL k3 k4 ⟨rfl, ?_⟩
      exact fin _ _ hE (by rw [eF, if_neg w0, if_neg w1])
end OSC
