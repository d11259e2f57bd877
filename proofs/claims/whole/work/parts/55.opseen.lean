/-! ===== seen: the call ===== -/
section OSN
variable {l : Launch} {g : zG} {d : Nat} {s : zS}
/-- what seen answers -/
def seenF (I : zM2) (t i : Nat) (m w : Int32) : Int32 :=
  if w = 2 then (if shF I t i m = true then 1 else 0)
  else if litF I t m = true then (if w = 0 then wyF I t i m else if w = 1 then slF I t i m else if I 172 t = 0 then -1 else hidF I i (pX I t m) (pY I t m) (pZ I t m))
  else -2147483648
theorem m_seen (hR : zRok s) {p q m w : Int32} {K : Int32 → zS → Prop} (hH : RelH s.1) (hT : RelT s.1) (hS : RelS s.1)
    (h1 : ¬ (bR 0 ((s.1 164 19).toInt - 1) p = true ∧ bR 0 ((s.1 164 18).toInt - 1) q = true ∧ bR 0 239 m = true ∧ bR 0 3 w = true) → K (-2147483648) s)
    (h2 : bR 0 ((s.1 164 19).toInt - 1) p = true ∧ bR 0 ((s.1 164 18).toInt - 1) q = true ∧ bR 0 239 m = true ∧ bR 0 3 w = true → ∀ s', zE atS s s' → K (seenF s.1 p.toNatClampNeg q.toNatClampNeg m w) s') :
    zc l g (d + 6) M_X8_seen [.ref 164, .int p, .int q, .int m, .int w] s (zKi K) := by
  have e3 : zinr w.toInt64 0 3 = bR 0 3 w := zq1 rfl rfl
  refine t_X8_seen hR (m_isThing hR hT.1.1 ⟨rfl, ?_⟩)
  by_cases a1 : bR 0 ((s.1 164 19).toInt - 1) p = true
  rotate_left
  · rw [if_neg a1]; exact h1 (fun z => a1 z.1)
  rw [if_pos a1]
  refine m_isSeer hR hS.1.1 ⟨rfl, ?_⟩
  by_cases a2 : bR 0 ((s.1 164 18).toInt - 1) q = true
  rotate_left
  · rw [if_neg a2]; exact h1 (fun z => a2 z.2.1)
  rw [if_pos a2]
  refine m_isMinute hR ⟨rfl, ?_⟩
  by_cases a3 : bR 0 239 m = true
  rotate_left
  · rw [if_neg a3]; exact h1 (fun z => a3 z.2.2.1)
  rw [if_pos a3, e3]
  by_cases a4 : bR 0 3 w = true
  rotate_left
  · rw [if_neg a4]; exact h1 (fun z => a4 z.2.2.2)
  rw [if_pos a4]
  have hh := h2 ⟨a1, a2, a3, a4⟩
  obtain ⟨t1, t2, hv⟩ := thN hT a1
  obtain ⟨u1, hw⟩ := seN hS a2
  have ho := hT.2.2.1 _ t1
  unfold seenF at hh
  by_cases w2 : w = 2
  · rw [if_pos w2]; rw [if_pos w2] at hh
    refine m_isShown hR hH.1 hv hw (tOK_per ho) (fun s' hE => ⟨zE_R hE, ?_⟩)
    have hh := hh s' hE
    by_cases c : shF s.1 p.toNatClampNeg q.toNatClampNeg m = true
    · rw [if_pos c]; rw [if_pos c] at hh; exact hh
    · rw [if_neg c]; rw [if_neg c] at hh; exact hh
  rw [if_neg w2]; rw [if_neg w2] at hh
  refine m_isLit hR hH.1 hv (tOK_per ho) (fun s' hE hp => ⟨zE_R hE, ?_⟩)
  by_cases c : litF s.1 p.toNatClampNeg m = true
  rotate_left
  · rw [if_neg c]; rw [if_neg c] at hh; exact hh s' hE
  rw [if_pos c]; rw [if_pos c] at hh
  have sa := sameAt hE p.toNatClampNeg
  have e70 : s'.1 170 q.toNatClampNeg = s.1 170 q.toNatClampNeg := hE.2 _ _ (by simp [atS])
  have e71 : s'.1 171 q.toNatClampNeg = s.1 171 q.toNatClampNeg := hE.2 _ _ (by simp [atS])
  have hn' : RN s'.1 164 17 8 := by unfold RN; rw [sa.2.1]; exact hH.1
  have hR' := zE_K hE hR
  have cL : litF s'.1 p.toNatClampNeg m = true := by rw [litF_c sa]; exact c
  by_cases w0 : w = 0
  · rw [if_pos w0]; rw [if_pos w0] at hh
    refine m_way (d := d + 1) hR' hn' hv hw cL (fun s2 hE2 => ⟨zE_R hE2, ?_⟩)
    rw [wyF_c sa e70 e71]
    exact hh s2 (zE_t hE hE2)
  rw [if_neg w0]; rw [if_neg w0] at hh
  by_cases w1 : w = 1
  · rw [if_pos w1]; rw [if_pos w1] at hh
    refine m_slope (d := d + 1) hR' hn' hv hw cL (fun s2 hE2 => ⟨zE_R hE2, ?_⟩)
    rw [slF_c sa e70 e71]
    exact hh s2 (zE_t hE hE2)
  rw [if_neg w1]; rw [if_neg w1] at hh
  refine ⟨hv, ?_⟩
  rw [(sT sa).1]
  by_cases h0 : s.1 172 p.toNatClampNeg = 0
  · rw [if_pos h0]; rw [if_pos h0] at hh; exact hh s' hE
  rw [if_neg h0]; rw [if_neg h0] at hh
  obtain ⟨p1, p2, p3⟩ := hp c h0
  rw [p1, p2, p3]
  refine m_hider (d := d + 1) hR' hn' hw ⟨rfl, ?_⟩
  rw [hidF_c sa.1 sa.2.1 e70 e71]
  exact hh s' hE
end OSN
