/-! ===== rules: the class reads conditions ===== -/
section CCO
variable {l : Launch} {g : zG} {d o T : Nat} {f : Nat → Nat} {n : Nat}
theorem cp_i {c : Int32} : isCp c = true ↔ c = 20060 ∨ c = 20061 := by unfold isCp; simp
/-- one comparison, behind its sums: from the loop's head -/
theorem c_cond_2 (ho : o = 79 ∨ o = 85) (hT0 : tkJ f n T = 30000) {sB : zS} {cs0 : List Int32} {K : Bool → zS → Prop} :
    ∀ m c j acc s, T - j < m → 2 * c ≤ j → (c = 0 ↔ m = 402) → m ≤ 402 → zE (snS o) sB s → cst o T f n s j (cs0 ++ acc) →
    ((pCmp (tkJ f n) j).1 = true → ∀ r : pR, (m = 402 → r = lp (tkJ f n) opN (pCmp (tkJ f n)) 401 (pCmp (tkJ f n) j).2.1 (acc ++ (pCmp (tkJ f n) j).2.2)) → (¬ m = 402 → r = lp (tkJ f n) opN (pCmp (tkJ f n)) (m - 1) (pCmp (tkJ f n) j).2.1 (acc ++ (pCmp (tkJ f n) j).2.2 ++ [10003])) → (r.1 = true → ∀ s', zE (snS o) sB s' → cst o T f n s' r.2.1 (cs0 ++ r.2.2) → K true s') ∧ (r.1 = false → ∀ s', zE (snS o) sB s' → s'.1 75 5 = nI r.2.1 → K false s')) →
    ((pCmp (tkJ f n) j).1 = false → ∀ s', zE (snS o) sB s' → s'.1 75 5 = nI (pCmp (tkJ f n) j).2.1 → K false s') →
    (¬ m = 402 → (cs0 ++ acc).length < j) →
    zt l g (d + 28) M_X2_readCondition 2 [.ref 75, .ref o, .int (nI c), zJ] [] s (zKz K) := by
  have h8 := (gd_all (t := tkJ f n) hT0 (k := 8) (by omega)).2.2
  have cS := c_sumD (l := l) (g := g) (d := d) (f := f) (n := n) ho hT0 8 (by omega)
  intro m
  induction m with
  | zero => intro c j acc s hm; omega
  | succ m ih =>
    intro c j acc s hm hcj hc0 hm4 hE h hT hN hlen
    have hjT := h.2.2.2.2.1
    have h400 := h.2.2.1
    have hl := h.2.2.2.2.2.2.1
    have gC := gd_cmp (t := tkJ f n) hT0 j hjT
    refine t_X2_readCondition_2 h.1 ho ?_
    by_cases c400 : (400 : Int32) ≤ nI c
    · exfalso
      rw [ti_le, nI_toInt (by omega), show (400 : Int32).toInt = 400 from rfl] at c400
      omega
    rw [if_neg c400, ← nI_succ]
    obtain ⟨g1, g2, g3⟩ := h8 j hjT
    unfold pCmp at hN
    refine cS s j _ _ h (fun r1 s1 hE1 hc1 => ⟨zE_R hE1, ?_⟩) (fun r1 s1 hE1 h5 => ⟨zE_R hE1, ?_⟩)
    rotate_left
    · rw [if_neg (by decide)]
      rw [if_neg (by rw [r1]; decide)] at hN
      exact hN rfl s1 (zE_t hE hE1) h5
    rw [if_pos rfl]
    rw [if_pos r1] at hN
    obtain ⟨q1, q2, q3⟩ := g3 r1
    refine c_token hc1 ⟨rfl, ?_⟩
    -- behind the sign
    have go : isCp (tkJ f n (pSumD (tkJ f n) 8 j).2.1) = true → zc l g (d + 27) M_X2_readSum [.ref 75, .ref o, .int 0] (zI s1 75 5 (s1.1 75 5 + 1)) (zKz (fun b6 s5 => s5.2.2.1 = s1.2.2.1 ∧ (if b6 = true then (zc l g (d + 27) M_X3_emit [.ref o, .int (tkJ f n (pSumD (tkJ f n) 8 j).2.1)] s5 (zKv (fun s7 => s7.2.2.1 = s5.2.2.1 ∧ (if nI c ≤ 0 then (zc l g (d + 27) M_X2_take [.ref 75, .int (10003)] s7 (zKz (fun b9 s8 => s8.2.2.1 = s7.2.2.1 ∧ (if b9 = true then zt l g (d + 28) M_X2_readCondition 2 [.ref 75, .ref o, .int (nI (c + 1)), zJ] [] s8 (zKz K) else K true s8)))) else (zc l g (d + 27) M_X3_emit [.ref o, .int (10003)] s7 (zKv (fun s10 => s10.2.2.1 = s7.2.2.1 ∧ (zc l g (d + 27) M_X2_take [.ref 75, .int (10003)] s10 (zKz (fun b12 s11 => s11.2.2.1 = s10.2.2.1 ∧ (if b12 = true then zt l g (d + 28) M_X2_readCondition 2 [.ref 75, .ref o, .int (nI (c + 1)), zJ] [] s11 (zKz K) else K true s11))))))))))) else K false s5))) := by
      intro cC
      rw [if_pos cC] at hN
      have hlt : (pSumD (tkJ f n) 8 j).2.1 < T := cst_lt hc1 rfl (fun e => by rw [e] at cC; exact absurd cC (by decide))
      obtain ⟨a1, a2, a3⟩ := cst_adv ho hc1 hlt
      rw [a1]
      obtain ⟨p1, p2, p3⟩ := h8 ((pSumD (tkJ f n) 8 j).2.1 + 1) (by omega)
      refine cS _ _ _ _ a3 (fun r2 s2 hE2 hc2 => ⟨zE_R (zE_t a2 hE2), ?_⟩) (fun r2 s2 hE2 h5 => ⟨zE_R (zE_t a2 hE2), ?_⟩)
      rotate_left
      · rw [if_neg (by decide)]
        rw [if_neg (by rw [r2]; decide)] at hN
        exact hN rfl s2 (zE_t hE (zE_t hE1 (zE_t a2 hE2))) h5
      rw [if_pos rfl]
      obtain ⟨u1, u2, u3⟩ := p3 r2
      have eC : pCmp (tkJ f n) j = (true, (pSumD (tkJ f n) 8 ((pSumD (tkJ f n) 8 j).2.1 + 1)).2.1, (pSumD (tkJ f n) 8 j).2.2 ++ (pSumD (tkJ f n) 8 ((pSumD (tkJ f n) 8 j).2.1 + 1)).2.2 ++ [tkJ f n (pSumD (tkJ f n) 8 j).2.1]) := by
        unfold pCmp
        rw [if_pos r1, if_pos cC, if_pos r2]
      have lenC : (pCmp (tkJ f n) j).2.2.length + j ≤ (pCmp (tkJ f n) j).2.1 := (gC.2.2 (by rw [eC])).2.1
      rw [eC] at lenC
      simp only [List.length_append, List.length_cons, List.length_nil] at lenC
      have hT3 := hT (by rw [eC])
      refine c_emit ho hc2 (by simp only [List.length_append] at hl ⊢; omega) (fun s3 hE3 hc3 => ⟨zE_R hE3, ?_⟩)
      have hB3 : zE (snS o) sB s3 := zE_t hE (zE_t hE1 (zE_t a2 (zE_t hE2 hE3)))
      have hc3' : cst o T f n s3 (pCmp (tkJ f n) j).2.1 (cs0 ++ (acc ++ (pCmp (tkJ f n) j).2.2)) := by
        rw [eC]
        simpa [List.append_assoc] using hc3
      have jlt : j < (pCmp (tkJ f n) j).2.1 := (gC.2.2 (by rw [eC])).1
      have hjT3 := hc3'.2.2.2.2.1
      by_cases cz : c = 0
      · have hm402 := hc0.mp cz
        rw [if_pos (by rw [cz]; decide)]
        have hT4 := hT3 _ (fun _ => rfl) (fun w => absurd hm402 w)
        refine c_take ho hc3' (by decide) (fun c5 c6 hE4 hc4 => ⟨rfl, ?_⟩) (fun c5 => ⟨rfl, ?_⟩)
        · rw [if_pos rfl]
          have op : opN (tkJ f n (pCmp (tkJ f n) j).2.1) = true := by unfold opN; simpa using c5
          have m401 : m = 401 := by omega
          unfold lp at hT4
          rw [if_pos op] at hT4
          refine ih (c + 1) ((pCmp (tkJ f n) j).2.1 + 1) (acc ++ (pCmp (tkJ f n) j).2.2) _ (by omega) (by omega) ⟨fun e => by omega, fun e => by omega⟩ (by omega) (zE_t hB3 hE4) hc4 (fun w r e1 e2 => ?_) (fun w s' hE' h5' => ?_) (fun _ => by have := hc3'.2.2.2.2.2.2.1; omega)
          · rw [if_pos w] at hT4
            have e3 := e2 (by omega)
            rw [c5] at hT4
            rw [e3, show m - 1 = 400 by omega]; exact hT4
          · rw [if_neg (by rw [w]; decide)] at hT4
            exact hT4.2 rfl s' hE' h5'
        · rw [if_neg (by decide)]
          have op : opN (tkJ f n (pCmp (tkJ f n) j).2.1) = false := by unfold opN; simpa using c5
          unfold lp at hT4
          rw [op, if_neg (by decide)] at hT4
          exact hT4.1 rfl s3 hB3 hc3'
      · have hm402 : ¬ m + 1 = 402 := fun e => cz (hc0.mpr e)
        rw [if_neg (nI_nle (by omega) (by omega))]
        have hT4 := hT3 _ (fun w => absurd w hm402) (fun _ => rfl)
        have hl2 := hlen hm402
        refine c_emit ho hc3' (by rw [eC]; simp only [List.length_append, List.length_cons, List.length_nil] at hl2 ⊢; omega) (fun s4 hE4 hc4 => ⟨zE_R hE4, ?_⟩)
        have hc4' : cst o T f n s4 (pCmp (tkJ f n) j).2.1 (cs0 ++ (acc ++ (pCmp (tkJ f n) j).2.2 ++ [10003])) := by simpa [List.append_assoc] using hc4
        have hB4 := zE_t hB3 hE4
        have m0 : m = (m - 1) + 1 := by omega
        refine c_take ho hc4' (by decide) (fun c5 c6 hE5 hc5 => ⟨rfl, ?_⟩) (fun c5 => ⟨rfl, ?_⟩)
        · rw [if_pos rfl]
          have op : opN (tkJ f n (pCmp (tkJ f n) j).2.1) = true := by unfold opN; simpa using c5
          rw [Nat.add_sub_cancel, m0] at hT4
          unfold lp at hT4
          rw [if_pos op] at hT4
          refine ih (c + 1) ((pCmp (tkJ f n) j).2.1 + 1) (acc ++ (pCmp (tkJ f n) j).2.2 ++ [10003]) _ (by omega) (by omega) ⟨fun e => by omega, fun e => by omega⟩ (by omega) (zE_t hB4 hE5) hc5 (fun w r e1 e2 => ?_) (fun w s' hE' h5' => ?_) (fun _ => by have := hc4'.2.2.2.2.2.2.1; omega)
          · rw [if_pos w] at hT4
            have e3 := e2 (by omega)
            rw [c5] at hT4
            rw [e3]; exact hT4
          · rw [if_neg (by rw [w]; decide)] at hT4
            exact hT4.2 rfl s' hE' h5'
        · rw [if_neg (by decide)]
          have op : opN (tkJ f n (pCmp (tkJ f n) j).2.1) = false := by unfold opN; simpa using c5
          rw [Nat.add_sub_cancel, m0] at hT4
          unfold lp at hT4
          rw [op, if_neg (by decide)] at hT4
          exact hT4.1 rfl s4 hB4 hc4'
    by_cases c1 : tkJ f n (pSumD (tkJ f n) 8 j).2.1 = 20060
    · rw [if_pos c1]
      exact go (cp_i.mpr (Or.inl c1))
    rw [if_neg c1]
    by_cases c2 : tkJ f n (pSumD (tkJ f n) 8 j).2.1 = 20061
    · rw [if_pos c2]
      exact go (cp_i.mpr (Or.inr c2))
    rw [if_neg c2]
    rw [if_neg (fun w => by rcases cp_i.mp w with w | w; exact c1 w; exact c2 w)] at hN
    exact hN rfl s1 (zE_t hE hE1) hc1.2.2.2.1
theorem c_cond (ho : o = 79 ∨ o = 85) (hT0 : tkJ f n T = 30000) : cOK o T f n (pCond (tkJ f n)) (fun s K => zc l g (d + 28) M_X2_readCondition [.ref 75, .ref o] s (zKz K)) := by
  intro s j cs K h hT hN
  refine t_X2_readCondition (d := d + 27) h.1 ho ?_
  have hjT := h.2.2.2.2.1
  have h400 := h.2.2.1
  refine c_cond_2 (d := d) ho hT0 (sB := s) (cs0 := cs) 402 0 j [] s (by omega) (by omega) ⟨fun _ => rfl, fun _ => rfl⟩ (Nat.le_refl _) zE_r (by simpa using h) (fun w r e1 e2 => ?_) (fun w s' hE' h5' => ?_) (fun w => absurd rfl w)
  · have e3 := e1 rfl
    unfold pCond chn at hT hN
    rw [if_pos w] at hT hN
    rw [List.nil_append] at e3
    rw [e3]
    exact ⟨hT, hN⟩
  · unfold pCond chn at hN
    rw [if_neg (by rw [w]; decide)] at hN
    exact hN rfl s' hE' h5'
end CCO
