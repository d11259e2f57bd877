/-! ===== ask: the class counts couples in a minute ===== -/
/-- couples of things that fit telling k, parted in a minute -/
def wxF (I : zM2) (i : Nat) (m : Int32) (u t : Nat) : Bool := decide (I 164 25 < apF (wyF I u i m) (wyF I t i m))
def parN (I : zM2) (i f : Nat) (m : Int32) : Nat := rrC (btN f) (fun t => shF I t i m) (wxF I i m) (nT I)
def ckS : Nat → Nat → Prop := fun o _ => o = 68 ∨ o = 72
theorem ck_g : ∀ o j, ckS o j → gSc o j := fun o j w => by unfold ckS at w; unfold gSc; omega
theorem Core_ck {s s' : zS} (h : zE ckS s s') (hC : Core s) : Core s' := by
  refine Core_k h (fun o j w => by unfold ckS at w; omega) hC (RelF_k hC.2.2.2.2.2.1 (eqM_g ck_g h) ?_ ?_ hC.2.2.2.2.2.2)
  · exact h.2 64 10 (by unfold ckS; omega)
  · intro q hq
    exact ⟨h.2 _ _ (by unfold ckS; omega), h.2 _ _ (by unfold ckS; omega)⟩
/-- the ways of those shown, below t -/
def rowR (b s : Nat → Bool) (w : Nat → Int32) (J : zM2) : Nat → Prop
  | 0 => True
  | t + 1 => rowR b s w J t ∧ ((b t && s t) = true → J 72 (shC b s t) = w t)
theorem shC_s (b s : Nat → Bool) (t : Nat) : shC b s (t + 1) = if (b t && s t) = true then shC b s t + 1 else shC b s t := rfl
theorem ccC_s (b s : Nat → Bool) (q : Nat → Nat → Bool) (t : Nat) : ccC b s q (t + 1) = if (b t && s t) = true then ccC b s q t + n1C b s q t t else ccC b s q t := rfl
theorem rowR_s (b s : Nat → Bool) (w : Nat → Int32) (J : zM2) (t : Nat) : rowR b s w J (t + 1) = (rowR b s w J t ∧ ((b t && s t) = true → J 72 (shC b s t) = w t)) := rfl
def cJ (A x : Int32) (J : zM2) : Nat → Nat
  | 0 => 0
  | j + 1 => if A < apF (J 72 j) x then cJ A x J j + 1 else cJ A x J j
theorem rowR_c {b s : Nat → Bool} {w : Nat → Int32} {J : zM2} {A : Int32} {x : Nat} : ∀ t, rowR b s w J t → cJ A (w x) J (shC b s t) = n1C b s (fun u t => decide (A < apF (w u) (w t))) x t := by
  intro t
  induction t with
  | zero => intro _; rfl
  | succ t ih =>
    intro h
    have h1 := ih h.1
    unfold shC n1C
    by_cases c : (b t && s t) = true
    · rw [if_pos c, c, Bool.true_and]
      unfold cJ
      rw [h.2 c, h1]
      by_cases c2 : A < apF (w t) (w x)
      · rw [if_pos c2, decide_eq_true c2, if_pos rfl]
      · rw [if_neg c2, decide_eq_false c2, if_neg (by decide)]
    · rw [if_neg c, Bool.eq_false_iff.mpr c, Bool.false_and, if_neg (by decide)]
      exact h1
theorem rowR_m {b s : Nat → Bool} {w : Nat → Int32} {J J' : zM2} : ∀ t, (∀ j, j < shC b s t → J' 72 j = J 72 j) → rowR b s w J t → rowR b s w J' t := by
  intro t
  induction t with
  | zero => intro _ _; trivial
  | succ t ih =>
    intro hj h
    have hm : shC b s t ≤ shC b s (t + 1) := by
      have e : shC b s (t + 1) = if (b t && s t) = true then shC b s t + 1 else shC b s t := rfl
      rw [e]
      split <;> omega
    refine ⟨ih (fun j h2 => hj j (by omega)) h.1, fun c => ?_⟩
    have e : shC b s (t + 1) = shC b s t + 1 := if_pos c
    rw [hj _ (by omega)]
    exact h.2 c
section CP
variable {l : Launch} {g : zG} {d : Nat} {s0 : zS} {m p : Int32} {K : Int32 → zS → Prop}
theorem c_couples_55 {s : zS} (hC : Core s) {i : Nat} {x2 c t6 : Int32} {n : Nat} (hn : n < 12) (h : zt l g (d + 2) M_X7_couplesParted 9 [.ref 64, .int p, .int x2, .int m, .int (nI (n + 1)), .int (c + nI (cJ (s.1 164 25) (s.1 68 1) s.1 n)), .int (t6 + 1), zJ] [] (zI s 72 n (s.1 68 1)) (zKi K)) :
    ∀ r j, j + r = n → zt l g (d + 2) M_X7_couplesParted 55 [.ref 64, .int p, .int x2, .int m, .int (nI n), .int (c + nI (cJ (s.1 164 25) (s.1 68 1) s.1 j)), .int t6, .int (nI j)] [] s (zKi K) := by
  intro r
  induction r with
  | zero =>
    intro j hj
    refine t_X7_couplesParted_55 hC.1 ?_
    rw [if_pos (nI_le (by omega) (by omega)), nI_clamp (by omega), ← nI_succ, show j = n by omega]
    exact ⟨vp_in_nI hn (by decide), h⟩
  | succ r ih =>
    intro j hj
    refine t_X7_couplesParted_55 hC.1 ?_
    rw [if_neg (nI_ge (by omega) (by omega)), nI_clamp (by omega), ← nI_succ]
    refine ⟨vp_in_nI (by omega) (by decide), c_apart (d := d) hC.1 ⟨rfl, ?_⟩⟩
    rw [hC.2.2.1.1]
    have ih2 := ih (j + 1) (by omega)
    unfold cJ at ih2
    by_cases c2 : apF (s.1 72 j) (s.1 68 1) ≤ s.1 164 25
    · rw [if_pos c2]
      rw [if_neg (by rw [ti_lt]; rw [ti_le] at c2; omega)] at ih2
      exact ih2
    · rw [if_neg c2]
      rw [if_pos (by rw [ti_lt]; rw [ti_le] at c2; omega), ← nI_add, ← Int32.add_assoc] at ih2
      exact ih2
theorem c_couples_550 {s : zS} (hC : Core s) {x2 c t6 : Int32} {n : Nat} (hn : n < 12) (h : zt l g (d + 2) M_X7_couplesParted 9 [.ref 64, .int p, .int x2, .int m, .int (nI (n + 1)), .int (c + nI (cJ (s.1 164 25) (s.1 68 1) s.1 n)), .int (t6 + 1), zJ] [] (zI s 72 n (s.1 68 1)) (zKi K)) :
    zt l g (d + 2) M_X7_couplesParted 55 [.ref 64, .int p, .int x2, .int m, .int (nI n), .int c, .int t6, .int 0] [] s (zKi K) := by
  have run := c_couples_55 (i := 0) hC hn h n 0 (by omega)
  rw [show cJ (s.1 164 25) (s.1 68 1) s.1 0 = 0 from rfl, nI_0, Int32.add_zero] at run
  exact run
theorem c_couples_9 {f : Nat} {L : Nat} (hp : vp_in p 20) (hps : p.toNatClampNeg < nS s0.1) (hm : bR 0 239 m = true) (hf : f < 4096) (hf2 : f < 2 ^ nT s0.1) (hK : ∀ s', zE ckS s0 s' → Core s' → K (nI (parN s0.1 p.toNatClampNeg f m)) s') :
    ∀ r t s, t + r = nT s0.1 → zE ckS s0 s → Core s → rowR (btN f) (fun t => shF s0.1 t p.toNatClampNeg m) (fun t => wyF s0.1 t p.toNatClampNeg m) s.1 t →
    zt l g (d + 5) M_X7_couplesParted 9 [.ref 64, .int p, .int (nI f), .int m, .int (nI (shC (btN f) (fun t => shF s0.1 t p.toNatClampNeg m) t)), .int (nI (ccC (btN f) (fun t => shF s0.1 t p.toNatClampNeg m) (wxF s0.1 p.toNatClampNeg m) t)), .int (nI t), zJ] [] s (zKi K) := by
  intro r
  induction r with
  | zero =>
    intro t s ht hE hC hr
    obtain ⟨e5, -, n12⟩ := Core_c5 hC
    have nt := (nT_g ck_g hE).1
    refine t_X7_couplesParted_9 hC.1 ?_
    rw [e5, if_pos (nI_le (by omega) (by omega)), zbc_n (n := nT s0.1) (by omega) hf2]
    have ett : t = nT s0.1 := by omega
    subst ett
    have a1 := shC_le (b := btN f) (s := fun t => shF s0.1 t p.toNatClampNeg m) (nT s0.1)
    have a2 := bC_le (b := btN f) (nT s0.1)
    have a3 := ccC_le (b := btN f) (s := fun t => shF s0.1 t p.toNatClampNeg m) (q := wxF s0.1 p.toNatClampNeg m) (nT s0.1) (by omega)
    have e := rr_cc (b := btN f) (s := fun t => shF s0.1 t p.toNatClampNeg m) (q := wxF s0.1 p.toNatClampNeg m) (nT s0.1)
    have hk := hK s hE hC
    unfold parN at hk
    rw [e] at hk
    generalize shC (btN f) (fun t => shF s0.1 t p.toNatClampNeg m) (nT s0.1) = a at *
    generalize bC (btN f) (nT s0.1) = b at *
    generalize ccC (btN f) (fun t => shF s0.1 t p.toNatClampNeg m) (wxF s0.1 p.toNatClampNeg m) (nT s0.1) = c at *
    have e1 : (nI b - nI a).toInt = ((b - a : Nat) : Int) := by
      rw [ti_sub (by rw [nI_toInt (by omega), nI_toInt (by omega)]; omega) (by rw [nI_toInt (by omega), nI_toInt (by omega)]; omega), nI_toInt (by omega), nI_toInt (by omega)]
      omega
    have hm2 : a * (b - a) ≤ 12 * 12 := Nat.mul_le_mul (by omega) (by omega)
    have e2 : (nI a * (nI b - nI a)).toInt = ((a * (b - a) : Nat) : Int) := by
      rw [ti_mul (by rw [e1, nI_toInt (by omega), ← Int.natCast_mul]; omega) (by rw [e1, nI_toInt (by omega), ← Int.natCast_mul]; omega), e1, nI_toInt (by omega), ← Int.natCast_mul]
    have e3 : nI c + nI a * (nI b - nI a) = nI (c + a * (b - a)) := by
      rw [ti_eq, ti_add (by rw [e2, nI_toInt (by omega)]; omega) (by rw [e2, nI_toInt (by omega)]; omega), e2, nI_toInt (by omega), nI_toInt (by omega)]
      omega
    rw [e3]
    exact hk
  | succ r ih =>
    intro t s ht hE hC hr
    obtain ⟨e5, -, n12⟩ := Core_c5 hC
    have nt := (nT_g ck_g hE).1
    have hbit := bit_n (f := f) (t := t) (by omega) (by omega)
    have hsc := shC_le (b := btN f) (s := fun t => shF s0.1 t p.toNatClampNeg m) t
    have hbc := bC_le (b := btN f) t
    refine t_X7_couplesParted_9 hC.1 ?_
    rw [e5, if_neg (nI_ge (by omega) (by omega)), ← nI_succ, nI_clamp (by omega)]
    have ih2 := ih (t + 1)
    simp only [rowR_s, shC_s, ccC_s] at ih2
    by_cases c1 : (nI f >>> (nI t &&& 31)) &&& 1 = 1
    rotate_left
    · rw [if_neg c1]
      have hb : btN f t = false := Bool.eq_false_iff.mpr (fun w => c1 (hbit.1.mpr w))
      rw [hb] at ih2
      simp only [Bool.false_and, Bool.false_eq_true, if_false, false_implies, and_true] at ih2
      exact ih2 s (by omega) hE hC hr
    rw [if_pos c1]
    have hb : btN f t = true := hbit.1.mp c1
    rw [hb] at ih2
    simp only [Bool.true_and] at ih2
    have sv := RelS_v hC.2.2.2.2.1 (show p.toNatClampNeg < nS s.1 by unfold nS at *; rw [hE.2 164 18 (by simp [ckS])]; exact hps)
    have sc : ∀ o, 165 ≤ o → o ≤ 169 → ∀ k, s.1 o k = s0.1 o k := fun o a b k => hE.2 o k (by unfold ckS; omega)
    have sa : sameT s0.1 s.1 t := ⟨sc, hE.2 _ _ (by simp [ckS]), fun o a b => hE.2 o t (by unfold ckS; omega)⟩
    have e70 : s.1 170 p.toNatClampNeg = s0.1 170 p.toNatClampNeg := hE.2 _ _ (by simp [ckS])
    have e71 : s.1 171 p.toNatClampNeg = s0.1 171 p.toNatClampNeg := hE.2 _ _ (by simp [ckS])
    refine ⟨vp_in_nI (by omega) (by decide), hp, c_shows (d := d) (i := p.toNatClampNeg) hC.1 hC.2.1 (by omega) (hC.2.2.2.1.2.2.1 t (by omega)) hm sv.2.2.2.2.1 sv.2.2.2.2.2.1 (fun s1 hE1 hw => ⟨zE_R hE1, ?_⟩)⟩
    rw [shF_c sa e70 e71, wyF_c sa e70 e71] at hw
    rw [shF_c sa e70 e71]
    have z1 : zE ckS s s1 := zE_m hE1 (fun o j w => Or.inl w)
    have hE2 := zE_t hE z1
    have hC2 := Core_ck z1 hC
    have hr2 : rowR (btN f) (fun t => shF s0.1 t p.toNatClampNeg m) (fun t => wyF s0.1 t p.toNatClampNeg m) s1.1 t := rowR_m t (fun j _ => z68 hE1 (by decide)) hr
    by_cases c2 : shF s0.1 t p.toNatClampNeg m = true
    rotate_left
    · rw [if_neg c2]
      rw [Bool.eq_false_iff.mpr c2] at ih2
      simp only [Bool.false_eq_true, if_false, false_implies, and_true] at ih2
      exact ih2 s1 (by omega) hE2 hC2 hr2
    rw [if_pos c2]
    simp only [c2, if_true, true_implies] at ih2
    have hw1 := (hw c2).1
    have e25 : s1.1 164 25 = s0.1 164 25 := hE2.2 _ _ (by simp [ckS])
    have hcj := rowR_c (A := s0.1 164 25) (x := t) t hr2
    refine c_couples_550 (d := d + 3) hC2 (n := shC (btN f) (fun t => shF s0.1 t p.toNatClampNeg m) t) (by omega) ?_
    rw [hw1, e25, hcj, nI_add, ← nI_succ]
    refine ih2 _ (by omega) (zE_i hE2 (Or.inr rfl)) (Core_ck (zE_i0 (Or.inr rfl)) hC2) ⟨rowR_m t (fun j hj => zI_k (by omega)) hr2, ?_⟩
    rw [zI_eq]
theorem c_couples {f : Nat} (hC : Core s0) (hp : vp_in p 20) (hps : p.toNatClampNeg < nS s0.1) (hm : bR 0 239 m = true) (hf : f < 4096) (hf2 : f < 2 ^ nT s0.1) (hK : ∀ s', zE ckS s0 s' → Core s' → K (nI (parN s0.1 p.toNatClampNeg f m)) s') : zc l g (d + 5) M_X7_couplesParted [.ref 64, .int p, .int (nI f), .int m] s0 (zKi K) :=
  t_X7_couplesParted hC.1 (c_couples_9 (L := 0) hp hps hm hf hf2 hK (nT s0.1) 0 s0 (by omega) zE_r hC trivial)
end CP
