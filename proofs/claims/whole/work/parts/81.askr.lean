/-! ===== ask: the reference counts couples in a minute ===== -/
theorem lk_g : ∀ o j, lkS o j → gSc o j := fun o j w => by unfold lkS at w; unfold gSc; omega
theorem wyF_lk {s0 s : zS} (h : zE lkS s0 s) (t i : Nat) (m : Int32) : wyF s.1 t i m = wyF s0.1 t i m :=
  wyF_c (same_lk h t) (h.2 _ _ (by simp [lkS])) (h.2 _ _ (by simp [lkS])) m
theorem sh_lit {I : zM2} {t i : Nat} {m : Int32} (h : shF I t i m = true) : litF I t m = true := by
  unfold shF at h
  rw [Bool.and_eq_true] at h
  exact h.1
section RS
variable {l : Launch} {g : zG} {d : Nat} {s s0 : zS} {p q m : Int32} {t : Nat}
theorem m_shG {K : Bool → zS → Prop} (hE : zE lkS s0 s) (hC : Core s) (hv : vp_in p 12) (hw : vp_in q 20) (ht : p.toNatClampNeg < nT s0.1) (h : ∀ s', s'.2.2.1 = s.2.2.1 → zE lkS s0 s' → Core s' → K (shF s0.1 p.toNatClampNeg q.toNatClampNeg m) s') : zc l g (d + 5) M_X8_isShown [.ref 164, .int p, .int q, .int m] s (zKz K) := by
  have n1 := (nT_g lk_g hE).1
  refine m_isShown (d := d) hC.1 hC.2.1.1 hv hw (tOK_per (hC.2.2.2.1.2.2.1 _ (by omega))) (fun s1 hE1 => ?_)
  rw [shF_lk hE]
  exact h s1 (zE_R hE1) (zE_t hE (lkAt hE1)) (Core_lk (lkAt hE1) hC)
theorem m_wyG {K : Int32 → zS → Prop} (hE : zE lkS s0 s) (hC : Core s) (hv : vp_in p 12) (hw : vp_in q 20) (hL : shF s0.1 p.toNatClampNeg q.toNatClampNeg m = true) (h : ∀ s', s'.2.2.1 = s.2.2.1 → zE lkS s0 s' → Core s' → K (wyF s0.1 p.toNatClampNeg q.toNatClampNeg m) s') : zc l g (d + 4) M_X8_way [.ref 164, .int p, .int q, .int m] s (zKi K) := by
  refine m_way (d := d) hC.1 hC.2.1.1 hv hw (by rw [litF_c (same_lk hE _)]; exact sh_lit hL) (fun s1 hE1 => ?_)
  rw [wyF_lk hE]
  exact h s1 (zE_R hE1) (zE_t hE (lkAt hE1)) (Core_lk (lkAt hE1) hC)
theorem m_slG {K : Int32 → zS → Prop} (hE : zE lkS s0 s) (hC : Core s) (hv : vp_in p 12) (hw : vp_in q 20) (hL : shF s0.1 p.toNatClampNeg q.toNatClampNeg m = true) (h : ∀ s', s'.2.2.1 = s.2.2.1 → zE lkS s0 s' → Core s' → K (slF s0.1 p.toNatClampNeg q.toNatClampNeg m) s') : zc l g (d + 4) M_X8_slope [.ref 164, .int p, .int q, .int m] s (zKi K) := by
  refine m_slope (d := d) hC.1 hC.2.1.1 hv hw (by rw [litF_c (same_lk hE _)]; exact sh_lit hL) (fun s1 hE1 => ?_)
  rw [slF_c (same_lk hE _) (hE.2 _ _ (by simp [lkS])) (hE.2 _ _ (by simp [lkS]))]
  exact h s1 (zE_R hE1) (zE_t hE (lkAt hE1)) (Core_lk (lkAt hE1) hC)
end RS
section RP
variable {l : Launch} {g : zG} {d : Nat} {s0 : zS} {m p q : Int32} {K : Int32 → zS → Prop}
def inC (b s : Nat → Bool) (qq : Nat → Nat → Bool) (t u : Nat) : Nat := if b t = true then r1C b s qq t u else 0
theorem m_parted_28 {f t c : Nat} (hw : vp_in q 20) (ht : t < nT s0.1) (h12 : nT s0.1 ≤ 12) (hf : f < 4096)
    (hK : ∀ s', zE lkS s0 s' → Core s' → zt l g (d + 6) M_X8_partedAt 16 [.ref 164, zJ, .int (nI f), .int m, .int q, .int (nI (c + inC (btN f) (fun t => shF s0.1 t q.toNatClampNeg m) (wxF s0.1 q.toNatClampNeg m) t t)), .int (nI (t + 1)), zJ, zJ, zJ] [] s' (zKi K)) :
    ∀ r u s, u + r = t → zE lkS s0 s → Core s → zt l g (d + 6) M_X8_partedAt 28 [.ref 164, zJ, .int (nI f), .int m, .int q, .int (nI (c + inC (btN f) (fun t => shF s0.1 t q.toNatClampNeg m) (wxF s0.1 q.toNatClampNeg m) t u)), .int (nI t), .int (nI u), zJ, zJ] [] s (zKi K) := by
  have bt := bit_n (f := f) (t := t) (by omega) (by omega)
  have hvt : vp_in (nI t) 12 := vp_in_nI (by omega) (by decide)
  have ct : (nI t).toNatClampNeg = t := nI_clamp (by omega)
  intro r
  induction r with
  | zero =>
    intro u s hu hE hC
    refine t_X8_partedAt_28 hC.1 ?_
    rw [if_pos (nI_le (by omega) (by omega)), ← nI_succ, show u = t by omega]
    exact hK s hE hC
  | succ r ih =>
    intro u s hu hE hC
    have bu := bit_n (f := f) (t := u) (by omega) (by omega)
    have hvu : vp_in (nI u) 12 := vp_in_nI (by omega) (by decide)
    have cu : (nI u).toNatClampNeg = u := nI_clamp (by omega)
    refine t_X8_partedAt_28 hC.1 ?_
    rw [if_neg (nI_ge (by omega) (by omega)), ← nI_succ, Int32.add_zero]
    have ih2 := ih (u + 1)
    unfold inC at ih2 ⊢
    by_cases c1 : (nI f >>> (nI t &&& 31)) &&& 1 = 0
    · rw [if_pos c1]
      rw [bt.2.mp c1] at ih2 ⊢
      exact ih2 s (by omega) hE hC
    rw [if_neg c1]
    have hbt : btN f t = true := by
      cases w : btN f t
      · exact absurd (bt.2.mpr w) c1
      · rfl
    rw [hbt, if_pos rfl] at ih2 ⊢
    unfold r1C at ih2
    by_cases c2 : (nI f >>> (nI u &&& 31)) &&& 1 = 0
    · rw [if_pos c2]
      rw [bu.2.mp c2, Bool.false_and, if_neg (by decide)] at ih2
      exact ih2 s (by omega) hE hC
    rw [if_neg c2]
    have hbu : btN f u = true := by
      cases w : btN f u
      · exact absurd (bu.2.mpr w) c2
      · rfl
    rw [hbu, Bool.true_and] at ih2
    refine m_shG (s0 := s0) (d := d) hE hC hvt hw (by rw [ct]; exact ht) (fun s1 hR1 hE1 hC1 => ⟨hR1, ?_⟩)
    refine m_shG (s0 := s0) (d := d) hE1 hC1 hvu hw (by rw [cu]; omega) (fun s2 hR2 hE2 hC2 => ⟨hR2, ?_⟩)
    rw [ct, cu]
    cases h1 : shF s0.1 t q.toNatClampNeg m
    · rw [h1] at ih2
      cases h2 : shF s0.1 u q.toNatClampNeg m
      · rw [h2] at ih2
        rw [if_pos rfl, if_neg (by decide)]
        exact ih2 s2 (by omega) hE2 hC2
      · rw [h2] at ih2
        rw [if_neg (by decide), nI_1]
        exact ih2 s2 (by omega) hE2 hC2
    · rw [h1] at ih2
      cases h2 : shF s0.1 u q.toNatClampNeg m
      · rw [h2] at ih2
        rw [if_neg (by decide), nI_1]
        exact ih2 s2 (by omega) hE2 hC2
      · rw [h2] at ih2
        rw [if_pos rfl, if_pos rfl]
        refine m_wyG (s0 := s0) (d := d + 1) hE2 hC2 hvt hw (by rw [ct]; exact h1) (fun s3 hR3 hE3 hC3 => ⟨hR3, ?_⟩)
        refine m_wyG (s0 := s0) (d := d + 1) hE3 hC3 hvu hw (by rw [cu]; exact h2) (fun s4 hR4 hE4 hC4 => ⟨hR4, ?_⟩)
        refine m_apart (d := d + 4) hC4.1 ⟨rfl, ?_⟩
        rw [show s4.1 164 25 = s0.1 164 25 from hE4.2 _ _ (by simp [lkS]), ct, cu, apF_s]
        simp only [Bool.xor_self, Bool.false_or, Bool.true_and] at ih2
        unfold wxF at ih2
        by_cases c5 : apF (wyF s0.1 u q.toNatClampNeg m) (wyF s0.1 t q.toNatClampNeg m) ≤ s0.1 164 25
        · rw [if_pos c5]
          rw [if_neg (by rw [decide_eq_true_eq, ti_lt]; rw [ti_le] at c5; omega)] at ih2
          exact ih2 s4 (by omega) hE4 hC4
        · rw [if_neg c5, nI_1]
          rw [if_pos (by rw [decide_eq_true_eq, ti_lt]; rw [ti_le] at c5; omega)] at ih2
          exact ih2 s4 (by omega) hE4 hC4
theorem m_parted_16 {f : Nat} (hw : vp_in q 20) (hf : f < 4096) (hK : ∀ s', zE lkS s0 s' → Core s' → K (nI (parN s0.1 q.toNatClampNeg f m)) s') :
    ∀ r t s, t + r = nT s0.1 → zE lkS s0 s → Core s → zt l g (d + 6) M_X8_partedAt 16 [.ref 164, zJ, .int (nI f), .int m, .int q, .int (nI (rrC (btN f) (fun t => shF s0.1 t q.toNatClampNeg m) (wxF s0.1 q.toNatClampNeg m) t)), .int (nI t), zJ, zJ, zJ] [] s (zKi K) := by
  intro r
  induction r with
  | zero =>
    intro t s ht hE hC
    obtain ⟨-, e5, n12⟩ := Core_c5 hC
    have nt := (nT_g lk_g hE).1
    refine t_X8_partedAt_16 hC.1 ?_
    rw [e5, if_pos (nI_le (by omega) (by omega))]
    have hk := hK s hE hC
    unfold parN at hk
    rw [show t = nT s0.1 by omega]
    exact hk
  | succ r ih =>
    intro t s ht hE hC
    obtain ⟨-, e5, n12⟩ := Core_c5 hC
    have nt := (nT_g lk_g hE).1
    refine t_X8_partedAt_16 hC.1 ?_
    rw [e5, if_neg (nI_ge (by omega) (by omega))]
    have e0 : ∀ c : Nat, inC (btN f) (fun t => shF s0.1 t q.toNatClampNeg m) (wxF s0.1 q.toNatClampNeg m) t 0 = 0 := fun _ => by unfold inC; split <;> rfl
    have run := m_parted_28 (s0 := s0) (l := l) (g := g) (d := d) (K := K) (m := m) (q := q) (f := f) (t := t) (c := rrC (btN f) (fun t => shF s0.1 t q.toNatClampNeg m) (wxF s0.1 q.toNatClampNeg m) t) hw (by omega) (by omega) hf (fun s1 hE1 hC1 => ?_) t 0 s (by omega) hE hC
    · rw [e0 0, Nat.add_zero] at run
      exact run
    · have ih2 := ih (t + 1) s1 (by omega) hE1 hC1
      unfold rrC at ih2
      unfold inC
      by_cases c : btN f t = true
      · rw [if_pos c] at ih2 ⊢; exact ih2
      · rw [if_neg c] at ih2 ⊢; exact ih2
theorem m_parted {s : zS} {f k : Nat} (hE : zE lkS s0 s) (hC : Core s) (hv : vp_in p 60) (hp : p.toNatClampNeg = k) (hk : k < 60) (hw : vp_in (s0.1 (183 + k) 0) 20) (hf : f < 4096) (hK : ∀ s', s'.2.2.1 = s.2.2.1 → zE lkS s0 s' → Core s' → K (nI (parN s0.1 (s0.1 (183 + k) 0).toNatClampNeg f m)) s') : zc l g (d + 6) M_X8_partedAt [.ref 164, .int p, .int (nI f), .int m] s (zKi K) := by
  refine t_X8_partedAt hC.1 ⟨hv, ?_⟩
  intro v2 e2
  rw [hp, show s.1 (183 + k) 0 = s0.1 (183 + k) 0 from hE.2 _ _ (by unfold lkS; omega)] at e2
  subst e2
  refine m_parted_16 (s0 := s0) (d := d) (f := f) hw hf (fun s1 hE1 hC1 => hK s1 ?_ hE1 hC1) (nT s0.1) 0 s (by omega) hE hC
  rw [zE_R hE1, zE_R hE]
end RP
