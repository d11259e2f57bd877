/-! ===== the reference's isLit, way, slope, isShown ===== -/
def shF (I : zM2) (t i : Nat) (m : Int32) : Bool := litF I t m && (decide (I 172 t = 0) || decide (hidF I i (pX I t m) (pY I t m) (pZ I t m) = -1))
theorem sameAt {s s' : zS} (h : zE atS s s') (t : Nat) : sameT s.1 s'.1 t :=
  ⟨fun o a b k => h.2 o k (by unfold atS; omega), h.2 164 17 (by simp [atS]), fun o a b => h.2 o t (by unfold atS; omega)⟩
theorem hidL_c {I I' : zM2} (h : ∀ o, 165 ≤ o → o ≤ 169 → ∀ k, I' o k = I o k) (h2 : I' 164 17 = I 164 17) (fx fy e dx dy rz : Int32) : ∀ m k, hidL I' fx fy e dx dy rz m k = hidL I fx fy e dx dy rz m k := by
  intro m
  induction m with
  | zero => intro k; rfl
  | succ m ih => intro k; unfold hidL; rw [ih, mG_c h h2, mH_c h h2]
theorem hidF_c {I I' : zM2} (h : ∀ o, 165 ≤ o → o ≤ 169 → ∀ k, I' o k = I o k) (h2 : I' 164 17 = I 164 17) {i : Nat} (h3 : I' 170 i = I 170 i) (h4 : I' 171 i = I 171 i) (x y z : Int32) : hidF I' i x y z = hidF I i x y z := by
  unfold hidF; rw [h3, h4, mG_c h h2, hidL_c h h2]
section MS
variable {l : Launch} {g : zG} {d : Nat} {s : zS} {p q m : Int32}
theorem m_isLit (hR : zRok s) {K : Bool → zS → Prop} (hn : RN s.1 164 17 8) (hv : vp_in p 12) (hper : s.1 172 p.toNatClampNeg = 3 → ¬ s.1 180 p.toNatClampNeg = 0)
    (h : ∀ s', zE atS s s' → (litF s.1 p.toNatClampNeg m = true → ¬ s.1 172 p.toNatClampNeg = 0 → s'.1 164 20 = pX s.1 p.toNatClampNeg m ∧ s'.1 164 21 = pY s.1 p.toNatClampNeg m ∧ s'.1 164 22 = pZ s.1 p.toNatClampNeg m) → K (litF s.1 p.toNatClampNeg m) s') : zc l g (d + 4) M_X8_isLit [.ref 164, .int p, .int m] s (zKz K) := by
  refine t_X8_isLit hR ⟨hv, ?_⟩
  by_cases h0 : s.1 172 p.toNatClampNeg = 0
  · rw [if_pos h0]
    have eL : litF s.1 p.toNatClampNeg m = true := by unfold litF; rw [decide_eq_true h0, Bool.true_or]
    have := h s zE_r (fun _ w => absurd h0 w)
    rw [eL] at this; exact this
  rw [if_neg h0]
  have eL : litF s.1 p.toNatClampNeg m = (pIs s.1 p.toNatClampNeg m && (!decide (s.1 172 p.toNatClampNeg = 3) || decide (m % s.1 180 p.toNatClampNeg = s.1 181 p.toNatClampNeg))) := by unfold litF; rw [decide_eq_false h0, Bool.false_or]
  refine m_isAt hR hn hv ?_
  intro s' hE hp
  refine ⟨zE_R hE, ?_⟩
  have hh := h s' hE
  by_cases kI : pIs s.1 p.toNatClampNeg m = true
  rotate_left
  · rw [if_neg kI]
    rw [Bool.eq_false_iff.mpr kI, Bool.false_and] at eL
    rw [eL] at hh
    exact hh (fun w => absurd w (by decide))
  rw [if_pos kI]
  rw [kI, Bool.true_and] at eL
  have hh2 := hh (fun _ _ => hp kI)
  have e172 : s'.1 172 p.toNatClampNeg = s.1 172 p.toNatClampNeg := (sT (sameAt hE _)).1
  have e180 : s'.1 180 p.toNatClampNeg = s.1 180 p.toNatClampNeg := hE.2 _ _ (by simp [atS])
  have e181 : s'.1 181 p.toNatClampNeg = s.1 181 p.toNatClampNeg := hE.2 _ _ (by simp [atS])
  refine ⟨hv, ?_⟩
  rw [e172, e180, e181]
  rw [eL] at hh2
  by_cases k3 : s.1 172 p.toNatClampNeg = 3
  · rw [if_pos k3]
    rw [decide_eq_true k3, Bool.not_true, Bool.false_or] at hh2
    refine ⟨hv, hper k3, hv, ?_⟩
    by_cases kr : m % s.1 180 p.toNatClampNeg = s.1 181 p.toNatClampNeg
    · rw [if_pos kr]; rw [decide_eq_true kr] at hh2; exact hh2
    · rw [if_neg kr]; rw [decide_eq_false kr] at hh2; exact hh2
  · rw [if_neg k3]
    rw [decide_eq_false k3, Bool.not_false, Bool.true_or] at hh2
    exact hh2
theorem m_isShown (hR : zRok s) {K : Bool → zS → Prop} (hn : RN s.1 164 17 8) (hv : vp_in p 12) (hw : vp_in q 20) (hper : s.1 172 p.toNatClampNeg = 3 → ¬ s.1 180 p.toNatClampNeg = 0)
    (h : ∀ s', zE atS s s' → K (shF s.1 p.toNatClampNeg q.toNatClampNeg m) s') : zc l g (d + 5) M_X8_isShown [.ref 164, .int p, .int q, .int m] s (zKz K) := by
  refine t_X8_isShown hR (m_isLit hR hn hv hper ?_)
  intro s' hE hp
  refine ⟨zE_R hE, ?_⟩
  have hh := h s' hE
  unfold shF at hh
  by_cases kL : litF s.1 p.toNatClampNeg m = true
  rotate_left
  · rw [if_neg kL]; rw [Bool.eq_false_iff.mpr kL, Bool.false_and] at hh; exact hh
  rw [if_pos kL]
  rw [kL, Bool.true_and] at hh
  refine ⟨hv, ?_⟩
  rw [show s'.1 172 p.toNatClampNeg = s.1 172 p.toNatClampNeg from (sT (sameAt hE _)).1]
  by_cases h0 : s.1 172 p.toNatClampNeg = 0
  · rw [if_pos h0]; rw [decide_eq_true h0, Bool.true_or] at hh; exact hh
  rw [if_neg h0]
  rw [decide_eq_false h0, Bool.false_or] at hh
  obtain ⟨p1, p2, p3⟩ := hp kL h0
  rw [p1, p2, p3]
  have sa := sameAt hE p.toNatClampNeg
  refine m_hider (zE_K hE hR) (by unfold RN; rw [sa.2.1]; exact hn) hw ⟨rfl, ?_⟩
  rw [hidF_c sa.1 sa.2.1 (hE.2 _ _ (by simp [atS])) (hE.2 _ _ (by simp [atS]))]
  by_cases c : hidF s.1 q.toNatClampNeg (pX s.1 p.toNatClampNeg m) (pY s.1 p.toNatClampNeg m) (pZ s.1 p.toNatClampNeg m) = -1
  · rw [if_pos c]; rw [decide_eq_true c] at hh; exact hh
  · rw [if_neg c]; rw [decide_eq_false c] at hh; exact hh
theorem m_way (hR : zRok s) {K : Int32 → zS → Prop} (hn : RN s.1 164 17 8) (hv : vp_in p 12) (hw : vp_in q 20) (hL : litF s.1 p.toNatClampNeg m = true)
    (h : ∀ s', zE atS s s' → K (wyF s.1 p.toNatClampNeg q.toNatClampNeg m) s') : zc l g (d + 4) M_X8_way [.ref 164, .int p, .int q, .int m] s (zKi K) := by
  refine t_X8_way hR ⟨hv, ?_⟩
  unfold wyF at h
  by_cases h0 : s.1 172 p.toNatClampNeg = 0
  · rw [if_pos h0]; rw [if_pos h0] at h; exact ⟨hv, hv, h s zE_r⟩
  rw [if_neg h0]; rw [if_neg h0] at h
  have kI : pIs s.1 p.toNatClampNeg m = true := by
    unfold litF at hL
    rw [decide_eq_false h0, Bool.false_or, Bool.and_eq_true] at hL
    exact hL.1
  refine m_isAt hR hn hv ?_
  intro s' hE hp
  obtain ⟨p1, p2, p3⟩ := hp kI
  refine ⟨zE_R hE, hw, hw, ?_⟩
  rw [p1, p2, show s'.1 170 q.toNatClampNeg = s.1 170 q.toNatClampNeg from hE.2 _ _ (by simp [atS]), show s'.1 171 q.toNatClampNeg = s.1 171 q.toNatClampNeg from hE.2 _ _ (by simp [atS])]
  exact m_wayOf (zE_K hE hR) ⟨rfl, h s' hE⟩
theorem m_slope (hR : zRok s) {K : Int32 → zS → Prop} (hn : RN s.1 164 17 8) (hv : vp_in p 12) (hw : vp_in q 20) (hL : litF s.1 p.toNatClampNeg m = true)
    (h : ∀ s', zE atS s s' → K (slF s.1 p.toNatClampNeg q.toNatClampNeg m) s') : zc l g (d + 4) M_X8_slope [.ref 164, .int p, .int q, .int m] s (zKi K) := by
  refine t_X8_slope hR ⟨hv, ?_⟩
  unfold slF at h
  by_cases h0 : s.1 172 p.toNatClampNeg = 0
  · rw [if_pos h0]; rw [if_pos h0] at h; exact ⟨hv, h s zE_r⟩
  rw [if_neg h0]; rw [if_neg h0] at h
  have kI : pIs s.1 p.toNatClampNeg m = true := by
    unfold litF at hL
    rw [decide_eq_false h0, Bool.false_or, Bool.and_eq_true] at hL
    exact hL.1
  refine m_isAt hR hn hv ?_
  intro s' hE hp
  obtain ⟨p1, p2, p3⟩ := hp kI
  have sa := sameAt hE p.toNatClampNeg
  refine ⟨zE_R hE, hw, hw, ?_⟩
  refine m_eye (zE_K hE hR) (by unfold RN; rw [sa.2.1]; exact hn) hw ⟨rfl, ?_⟩
  rw [p1, p2, p3, show s'.1 170 q.toNatClampNeg = s.1 170 q.toNatClampNeg from hE.2 _ _ (by simp [atS]), show s'.1 171 q.toNatClampNeg = s.1 171 q.toNatClampNeg from hE.2 _ _ (by simp [atS]), mG_c sa.1 sa.2.1]
  exact m_slopeOf (zE_K hE hR) ⟨rfl, h s' hE⟩
end MS
