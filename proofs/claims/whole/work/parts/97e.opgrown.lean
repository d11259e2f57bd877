/-! ===== grown, before: both sides ===== -/
def gwF (q : rQ) (a b x y : Int32) : Int32 := match q.2.1 with
  | none => a
  | some p => zmax 1 (zmin (evL (gwV a b x y) (sl q.1 p.1 p.2) []) 99)
section OGW
variable {l : Launch} {g : zG} {d : Nat} {s : zS} {a b x y : Int32} {q : rQ}
theorem c_growth (hR : zRok s) (hw : wfQ q) (h4 : q.1.length ≤ 400) (hq : rqC (s.2.2.1 64 15) s.1 q) {K : Int32 → zS → Prop} (hK : ∀ s', zE qS5 s s' → K (gwF q a b x y) s') : zc l g (d + 4) M_X7_growth [.ref 64, .int a, .int b, .int x, .int y] s (zKi K) := by
  have hrn := rn_or hR
  refine t_X7_growth (d := d + 3) hR rfl hrn ?_
  generalize s.2.2.1 64 15 = o at *
  have hg := hq.2.1
  have hwg := hw.2.1
  unfold gwF at hK
  revert hK
  cases hp : q.2.1 with
  | none =>
    intro hK
    rw [hp] at hg
    rw [if_pos (show s.1 o 2 = 0 from hg)]
    exact hK s zE_r
  | some p =>
    intro hK
    rw [hp] at hg
    obtain ⟨g1, g2, g3⟩ := hg
    obtain ⟨w1, w2, w3⟩ := hwg p hp
    rw [if_neg (by rw [g1]; decide)]
    refine c_values hR (fun s1 hE1 hv1 => ⟨zE_R hE1, ?_⟩)
    rw [hE1.2 o 3 (by omega), hE1.2 o 4 (by omega), g2, g3]
    refine c_piece (d := d) (v := gwV a b x y) (zE_K hE1 hR) hrn hv1 h4 (fun k hk => by rw [hE1.2 _ _ (by omega)]; exact hq.1 k hk) w1 w2 w3 (fun s2 hE2 => ⟨zE_R hE2, ?_⟩)
    refine t_X7_within (d := d + 2) (zE_K hE2 (zE_K hE1 hR)) ⟨rfl, ?_⟩
    exact hK s2 (zE_t (zE_m hE1 (fun o j w => by unfold qS5; omega)) (zE_m hE2 (fun o j w => by unfold vaS at w; unfold qS5; omega)))
theorem m_grownTo (hR : zRok s) (hw : wfQ q) (h4 : q.1.length ≤ 400) (hq : rqM s.1 q) {K : Int32 → zS → Prop} (hK : ∀ s', zE qS5 s s' → K (gwF q a b x y) s') : zc l g (d + 3) M_X8_grownTo [.ref 164, .int a, .int b, .int x, .int y] s (zKi K) := by
  refine t_X8_grownTo (d := d + 2) hR ?_
  have hg := hq.2.1
  have hwg := hw.2.1
  unfold gwF at hK
  revert hK
  cases hp : q.2.1 with
  | none =>
    intro hK
    rw [hp] at hg
    rw [if_pos (show s.1 259 0 = 0 from hg)]
    exact hK s zE_r
  | some p =>
    intro hK
    rw [hp] at hg
    obtain ⟨g1, g2, g3⟩ := hg
    obtain ⟨w1, w2, w3⟩ := hwg p hp
    rw [if_neg (by rw [g1]; decide)]
    refine m_lays hR (fun s1 hE1 hv1 => ⟨zE_R hE1, ?_⟩)
    refine m_piece (d := d) (v := gwV a b x y) (p := 12) (zE_K hE1 hR) hv1 h4 (fun k hk => by rw [hE1.2 _ _ (by omega)]; exact hq.1 k hk) (by decide) (by rw [hE1.2 _ _ (by omega)]; exact g2) (by rw [hE1.2 _ _ (by omega)]; exact g3) w1 w2 w3 (fun s2 hE2 => ⟨zE_R hE2, ?_⟩)
    rw [zmin_c]
    exact hK s2 (zE_t (zE_m hE1 (fun o j w => by unfold qS5; omega)) (zE_m hE2 (fun o j w => by unfold pilS at w; unfold qS5; omega)))
theorem rqC_5 {s s' : zS} {q : rQ} (hR : zRok s) (hE : zE qS5 s s') (h : rqC (s.2.2.1 64 15) s.1 q) : rqC (s'.2.2.1 64 15) s'.1 q := by
  rw [zE_R hE]
  exact rqC_o (rn_or hR) (qS_o hE) h
theorem op_grown {p0 p1 p2 p3 : Int32} {Q : zS → Prop} (hR : zRok s) (hQ : RelQ s) (h1 : ∀ s', zE qS5 s s' → Q s') :
    zc l g (d + 5) M_X7_grown [.ref 64, .int p0, .int p1, .int p2, .int p3] s (zKi fun r s5 => zc l g (d + 5) M_X8_grown [.ref 164, .int p0, .int p1, .int p2, .int p3] s5 (zKi fun r' s10 => r = r' ∧ Q s10)) := by
  obtain ⟨q, hw, h4, hqc, hqm⟩ := hQ
  have bad : ¬ (bR 1 9 p0 = true ∧ bR 0 1 p1 = true ∧ bR 0 99 p2 = true ∧ bR 0 99 p3 = true) → zc l g (d + 5) M_X8_grown [.ref 164, .int p0, .int p1, .int p2, .int p3] s (zKi fun r' s10 => -1 = r' ∧ Q s10) := by
    intro w
    refine t_X8_grown (d := d + 4) hR ?_
    rw [show zinr p0.toInt64 1 9 = bR 1 9 p0 from bR_z, show zinr p1.toInt64 0 1 = bR 0 1 p1 from bR_z]
    by_cases a1 : bR 1 9 p0 = true
    rotate_left
    · rw [if_neg a1]; exact ⟨rfl, h1 s zE_r⟩
    rw [if_pos a1]
    by_cases a2 : bR 0 1 p1 = true
    rotate_left
    · rw [if_neg a2]; exact ⟨rfl, h1 s zE_r⟩
    rw [if_pos a2]
    refine m_areLater (d := d + 3) hR ⟨rfl, ?_⟩
    rw [if_neg (fun u => by rw [Bool.and_eq_true] at u; exact w ⟨a1, a2, u.1, u.2⟩)]
    exact ⟨rfl, h1 s zE_r⟩
  refine t_X7_grown (d := d + 4) hR (c_isLights hR ⟨rfl, ?_⟩)
  by_cases a1 : bR 1 9 p0 = true
  rotate_left
  · rw [if_neg a1]; exact bad (fun w => a1 w.1)
  rw [if_pos a1]
  refine c_isHull hR ⟨rfl, ?_⟩
  by_cases a2 : bR 0 1 p1 = true
  rotate_left
  · rw [if_neg a2]; exact bad (fun w => a2 w.2.1)
  rw [if_pos a2]
  refine c_isLater hR ⟨rfl, ?_⟩
  by_cases a3 : bR 0 99 p2 = true
  rotate_left
  · rw [if_neg a3]; exact bad (fun w => a3 w.2.2.1)
  rw [if_pos a3]
  refine c_isLater hR ⟨rfl, ?_⟩
  by_cases a4 : bR 0 99 p3 = true
  rotate_left
  · rw [if_neg a4]; exact bad (fun w => a4 w.2.2.2)
  rw [if_pos a4]
  refine c_growth (d := d) hR hw h4 hqc (fun s1 hE1 => ⟨zE_R hE1, ?_⟩)
  have hR1 := zE_K hE1 hR
  refine t_X8_grown (d := d + 4) hR1 ?_
  rw [show zinr p0.toInt64 1 9 = bR 1 9 p0 from bR_z, show zinr p1.toInt64 0 1 = bR 0 1 p1 from bR_z, if_pos a1, if_pos a2]
  refine m_areLater (d := d + 3) hR1 ⟨rfl, ?_⟩
  rw [if_pos (by rw [a3, a4]; rfl)]
  exact m_grownTo (d := d + 1) hR1 hw h4 (rqM_o (qS_o hE1) hqm) (fun s2 hE2 => ⟨zE_R hE2, rfl, h1 s2 (zE_t hE1 hE2)⟩)
def bfL (q : rQ) (p0 p1 p2 p3 : Int32) : Nat → Nat → Int32 → Int32
  | 0, _, w => w
  | m + 1, i, w => bfL q p0 p1 p2 p3 m (i + 1) (if gwF q (nI i) p1 p2 p3 = p0 then w ||| (1 <<< ((nI i - 1) &&& 31)) else w)
theorem c_before_41 {p0 p1 p2 p3 r : Int32} {sB : zS} (hR0 : zRok sB) (hw : wfQ q) (h4 : q.1.length ≤ 400) (hq : rqC (sB.2.2.1 64 15) sB.1 q) {K : Int32 → zS → Prop} (hK : ∀ s', zE qS5 sB s' → K r s') :
    ∀ m i w s, i + m = 10 → zE qS5 sB s → bfL q p0 p1 p2 p3 m i w = r → zt l g (d + 5) M_X7_before 41 [.ref 64, .int p0, .int p1, .int p2, .int p3, .int w, .int (nI i)] [] s (zKi K) := by
  intro m
  induction m with
  | zero =>
    intro i w s hi hE hr
    have : i = 10 := by omega
    subst this
    refine t_X7_before_41 (d := d + 4) (zE_K hE hR0) ?_
    rw [if_pos (by decide), show w = r from hr]
    exact hK s hE
  | succ m ih =>
    intro i w s hi hE hr
    refine t_X7_before_41 (d := d + 4) (zE_K hE hR0) ?_
    rw [if_neg (by rw [ti_lt, nI_toInt (by omega), show (9 : Int32).toInt = 9 from rfl]; omega), ← nI_succ]
    refine c_growth (d := d) (zE_K hE hR0) hw h4 (rqC_5 hR0 hE hq) (fun s1 hE1 => ⟨zE_R hE1, ?_⟩)
    unfold bfL at hr
    by_cases c : gwF q (nI i) p1 p2 p3 = p0
    · rw [if_pos c] at hr ⊢
      intro v3 e3
      rw [e3]
      exact ih (i + 1) _ s1 (by omega) (zE_t hE hE1) hr
    · rw [if_neg c] at hr ⊢
      exact ih (i + 1) w s1 (by omega) (zE_t hE hE1) hr
theorem m_before_39 {p0 p1 p2 p3 r : Int32} {sB : zS} (hR0 : zRok sB) (hw : wfQ q) (h4 : q.1.length ≤ 400) (hq : rqM sB.1 q) {K : Int32 → zS → Prop} (hK : ∀ s', zE qS5 sB s' → K r s') :
    ∀ m i w s, i + m = 10 → zE qS5 sB s → bfL q p0 p1 p2 p3 m i w = r → zt l g (d + 5) M_X8_before 39 [.ref 164, .int p0, .int p1, .int p2, .int p3, .int w, .int (nI i)] [] s (zKi K) := by
  intro m
  induction m with
  | zero =>
    intro i w s hi hE hr
    have : i = 10 := by omega
    subst this
    refine t_X8_before_39 (d := d + 4) (zE_K hE hR0) ?_
    rw [if_pos (by decide), show w = r from hr]
    exact hK s hE
  | succ m ih =>
    intro i w s hi hE hr
    refine t_X8_before_39 (d := d + 4) (zE_K hE hR0) ?_
    rw [if_neg (lit_ge (c := 10) (b := 10) rfl (by omega) (by decide)), ← nI_succ]
    refine m_grownTo (d := d + 1) (zE_K hE hR0) hw h4 (rqM_o (qS_o hE) hq) (fun s1 hE1 => ⟨zE_R hE1, ?_⟩)
    unfold bfL at hr
    by_cases c : gwF q (nI i) p1 p2 p3 = p0
    · rw [if_pos c] at hr ⊢
      intro v3 e3
      rw [e3]
      exact ih (i + 1) _ s1 (by omega) (zE_t hE hE1) hr
    · rw [if_neg c] at hr ⊢
      rw [show w ||| 0 = w from Int32.or_zero]
      exact ih (i + 1) w s1 (by omega) (zE_t hE hE1) hr
theorem op_before {p0 p1 p2 p3 : Int32} {Q : zS → Prop} (hR : zRok s) (hQ : RelQ s) (h1 : ∀ s', zE qS5 s s' → Q s') :
    zc l g (d + 5) M_X7_before [.ref 64, .int p0, .int p1, .int p2, .int p3] s (zKi fun r s5 => zc l g (d + 5) M_X8_before [.ref 164, .int p0, .int p1, .int p2, .int p3] s5 (zKi fun r' s10 => r = r' ∧ Q s10)) := by
  obtain ⟨q, hw, h4, hqc, hqm⟩ := hQ
  have bad : ¬ (bR 1 99 p0 = true ∧ bR 0 1 p1 = true ∧ bR 0 99 p2 = true ∧ bR 0 99 p3 = true) → zc l g (d + 5) M_X8_before [.ref 164, .int p0, .int p1, .int p2, .int p3] s (zKi fun r' s10 => -1 = r' ∧ Q s10) := by
    intro w
    refine t_X8_before (d := d + 4) hR ?_
    rw [show zinr p0.toInt64 1 99 = bR 1 99 p0 from bR_z, show zinr p1.toInt64 0 1 = bR 0 1 p1 from bR_z]
    by_cases a1 : bR 1 99 p0 = true
    rotate_left
    · rw [if_neg a1]; exact ⟨rfl, h1 s zE_r⟩
    rw [if_pos a1]
    by_cases a2 : bR 0 1 p1 = true
    rotate_left
    · rw [if_neg a2]; exact ⟨rfl, h1 s zE_r⟩
    rw [if_pos a2]
    refine m_areLater (d := d + 3) hR ⟨rfl, ?_⟩
    rw [if_neg (fun u => by rw [Bool.and_eq_true] at u; exact w ⟨a1, a2, u.1, u.2⟩)]
    exact ⟨rfl, h1 s zE_r⟩
  refine t_X7_before (d := d + 4) hR ?_
  have e1 : (1 : Int32).toInt = 1 := rfl
  have e99 : (99 : Int32).toInt = 99 := rfl
  by_cases c1 : p0 < 1
  · rw [if_pos c1]; exact bad (fun w => by have := bR_t.mp w.1; rw [ti_lt, e1] at c1; omega)
  rw [if_neg c1]
  by_cases c2 : 99 < p0
  · rw [if_pos c2]; exact bad (fun w => by have := bR_t.mp w.1; rw [ti_lt, e99] at c2; omega)
  rw [if_neg c2]
  have a1 : bR 1 99 p0 = true := bR_t.mpr (by rw [ti_lt, e1] at c1; rw [ti_lt, e99] at c2; omega)
  refine c_isHull hR ⟨rfl, ?_⟩
  by_cases a2 : bR 0 1 p1 = true
  rotate_left
  · rw [if_neg a2]; exact bad (fun w => a2 w.2.1)
  rw [if_pos a2]
  refine c_isLater hR ⟨rfl, ?_⟩
  by_cases a3 : bR 0 99 p2 = true
  rotate_left
  · rw [if_neg a3]; exact bad (fun w => a3 w.2.2.1)
  rw [if_pos a3]
  refine c_isLater hR ⟨rfl, ?_⟩
  by_cases a4 : bR 0 99 p3 = true
  rotate_left
  · rw [if_neg a4]; exact bad (fun w => a4 w.2.2.2)
  rw [if_pos a4]
  refine c_before_41 (d := d) (sB := s) (r := bfL q p0 p1 p2 p3 9 1 0) hR hw h4 hqc (fun s1 hE1 => ?_) 9 1 0 s rfl zE_r rfl
  have hR1 := zE_K hE1 hR
  refine t_X8_before (d := d + 4) hR1 ?_
  rw [show zinr p0.toInt64 1 99 = bR 1 99 p0 from bR_z, show zinr p1.toInt64 0 1 = bR 0 1 p1 from bR_z, if_pos a1, if_pos a2]
  refine m_areLater (d := d + 3) hR1 ⟨rfl, ?_⟩
  rw [if_pos (by rw [a3, a4]; rfl)]
  exact m_before_39 (d := d) (sB := s1) (r := bfL q p0 p1 p2 p3 9 1 0) hR1 hw h4 (rqM_o (qS_o hE1) hqm) (fun s2 hE2 => ⟨rfl, h1 s2 (zE_t hE1 hE2)⟩) 9 1 0 s1 rfl zE_r rfl
end OGW
