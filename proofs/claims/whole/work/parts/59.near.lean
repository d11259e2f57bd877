/-! ===== the reference's isNear ===== -/
/-- thing t is near what row o tells of one minute -/
def neF (I : zM2) (t o j1 j3 j4 : Nat) : Bool :=
  shF I t (I o 0).toNatClampNeg (I o j1) && nrF I (wyF I t (I o 0).toNatClampNeg (I o j1)) (slF I t (I o 0).toNatClampNeg (I o j1)) (I o j3) (I o j4)
section NM
variable {l : Launch} {g : zG} {d : Nat} {s : zS} {p p2 : Int32} {o j1 j3 j4 : Nat}
theorem m_isNear (hR : zRok s) {K : Bool → zS → Prop} (hn : RN s.1 164 17 8) (hv : vp_in p 12) (hper : s.1 172 p.toNatClampNeg = 3 → ¬ s.1 180 p.toNatClampNeg = 0) (ho : 183 ≤ o ∧ o < 243) (hw : vp_in (s.1 o 0) 20)
    (v1 : vp_in (1 + p2) 9) (v3 : vp_in (3 + 2 * p2) 9) (v4 : vp_in (4 + 2 * p2) 9) (e1 : (1 + p2).toNatClampNeg = j1) (e3 : (3 + 2 * p2).toNatClampNeg = j3) (e4 : (4 + 2 * p2).toNatClampNeg = j4)
    (h : ∀ s', zE atS s s' → K (neF s.1 p.toNatClampNeg o j1 j3 j4) s') : zc l g (d + 6) M_X8_isNear [.ref 164, .int p, .ref o, .int p2] s (zKz K) := by
  have o164 : ∀ {k}, ¬ atS o k := fun {k} w => by unfold atS at w; omega
  refine t_X8_isNear hR ho ⟨v1, ?_⟩
  intro v2 ev
  rw [e1] at ev
  subst ev
  rw [e3, e4]
  unfold neF nrF at h
  refine m_isShown hR hn hv hw hper (fun s1 hE1 => ⟨zE_R hE1, ?_⟩)
  by_cases c : shF s.1 p.toNatClampNeg (s.1 o 0).toNatClampNeg (s.1 o j1) = true
  rotate_left
  · rw [if_neg c]; rw [Bool.eq_false_iff.mpr c, Bool.false_and] at h; exact h s1 hE1
  rw [if_pos c]; rw [c, Bool.true_and] at h
  have cL : litF s.1 p.toNatClampNeg (s.1 o j1) = true := by
    unfold shF at c; rw [Bool.and_eq_true] at c; exact c.1
  have q0 : ∀ {s'}, zE atS s s' → s'.1 o 0 = s.1 o 0 := fun z => z.2 _ _ o164
  have fr : ∀ {s'}, zE atS s s' → RN s'.1 164 17 8 ∧ litF s'.1 p.toNatClampNeg (s.1 o j1) = true ∧ s'.1 170 (s.1 o 0).toNatClampNeg = s.1 170 (s.1 o 0).toNatClampNeg ∧ s'.1 171 (s.1 o 0).toNatClampNeg = s.1 171 (s.1 o 0).toNatClampNeg := by
    intro s' z
    have sa := sameAt z p.toNatClampNeg
    refine ⟨by unfold RN; rw [sa.2.1]; exact hn, by rw [litF_c sa]; exact cL, z.2 _ _ (by simp [atS]), z.2 _ _ (by simp [atS])⟩
  rw [q0 hE1]
  obtain ⟨f1, f2, f3, f4⟩ := fr hE1
  refine m_way (d := d + 1) (zE_K hE1 hR) f1 hv hw f2 (fun s2 hE2 => ⟨zE_R hE2, v3, ?_⟩)
  have hE12 := zE_t hE1 hE2
  rw [wyF_c (sameAt hE1 _) f3 f4, show s2.1 o j3 = s.1 o j3 from hE12.2 _ _ o164]
  refine m_apart (zE_K hE12 hR) ⟨rfl, ?_⟩
  rw [show s2.1 164 25 = s.1 164 25 from hE12.2 _ _ (by simp [atS])]
  by_cases c1 : s.1 164 25 < apF (wyF s.1 p.toNatClampNeg (s.1 o 0).toNatClampNeg (s.1 o j1)) (s.1 o j3)
  · rw [if_pos c1]
    rw [decide_eq_false (fun w => w c1), Bool.false_and] at h
    exact h s2 hE12
  rw [if_neg c1]
  rw [decide_eq_true c1, Bool.true_and] at h
  obtain ⟨g1, g2, g3, g4⟩ := fr hE12
  rw [q0 hE12]
  refine m_slope (d := d + 1) (zE_K hE12 hR) g1 hv hw g2 (fun s3 hE3 => ⟨zE_R hE3, v4, ?_⟩)
  have hE13 := zE_t hE12 hE3
  rw [slF_c (sameAt hE12 _) g3 g4, show s3.1 o j4 = s.1 o j4 from hE13.2 _ _ o164, show s3.1 164 26 = s.1 164 26 from hE13.2 _ _ (by simp [atS])]
  by_cases c2 : s.1 164 26 < zabs (slF s.1 p.toNatClampNeg (s.1 o 0).toNatClampNeg (s.1 o j1) - s.1 o j4)
  · rw [if_pos c2]
    rw [decide_eq_false (fun w => w c2)] at h
    exact h s3 hE13
  · rw [if_neg c2]
    rw [decide_eq_true c2] at h
    exact h s3 hE13
end NM
