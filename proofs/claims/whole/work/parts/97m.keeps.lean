/-! ===== every call keeps it ===== -/
/-- cells that new hills, things and margins write -/
def uS : Nat → Nat → Prop := fun o j => (o = 64 ∧ (j = 5 ∨ j = 8 ∨ j = 9 ∨ j = 10)) ∨ (65 ≤ o ∧ o ≤ 67) ∨ (92 ≤ o ∧ o < 104) ∨ (165 ≤ o ∧ o ≤ 169) ∨ (172 ≤ o ∧ o ≤ 181) ∨ (o = 164 ∧ (j = 17 ∨ j = 19 ∨ j = 25 ∨ j = 26))
section RK
variable {s s' : zS} {n : Nat}
theorem Rel_10 {S : Nat → Nat → Prop} (h : Rel n s) (hn : n < 2000000000) (hS : ∀ o j, S o j → uS o j) (hE : zE S s s') (hH : RelH s'.1) (hO : RelO s'.1) (hT : RelT s'.1) (e10 : s'.1 64 10 = s.1 64 10 + 1) : Rel (n + 1) s' := by
  obtain ⟨hC, hX, hQ, hA, hN, h10⟩ := h
  have q : ∀ o j, ¬ uS o j → s'.1 o j = s.1 o j := fun o j w => hE.2 o j (fun u => w (hS o j u))
  have hF := hC.2.2.2.2.2.2
  have h60 := (Core_c7 hC).2.2
  have en : nK s'.1 = nK s.1 := by unfold nK; rw [q 164 24 (by unfold uS; omega)]
  have h1 := hF.1
  refine ⟨⟨zE_K hE hC.1, hH, hO, hT, RelS_c (q _ _ (by unfold uS; omega)) (q _ _ (by unfold uS; omega)) (fun k => q _ _ (by unfold uS; omega)) (fun k => q _ _ (by unfold uS; omega)) (fun k => q _ _ (by unfold uS; omega)) hC.2.2.2.2.1,
    RelL_c (fun o x y k hk => q o k (by unfold uS; omega)) (fun o x y k => q o k (by unfold uS; omega)) (q _ _ (by unfold uS; omega)) (q _ _ (by unfold uS; omega)) (by rw [q 164 18 (by unfold uS; omega)]; exact Int.le_refl _) hC.2.2.2.2.2.1,
    RelF_up e10 (by omega) en (fun k hk => q _ _ (by unfold uS; omega)) hF⟩,
    RelX_c (fun k => q _ _ (by unfold uS; omega)) (fun k => q _ _ (by unfold uS; omega)) (q _ _ (by unfold uS; omega)) (q _ _ (by unfold uS; omega)) hX,
    RelQ_c hE (fun p k w => by have := hS _ _ w; unfold uS at this; unfold rqS; have := hC.1.2; omega) hQ,
    RelA_up h1 e10 (by omega) en (fun k hk => q _ _ (by unfold uS; omega)) hA, by rw [hE.1]; exact hN, ?_⟩
  rw [e10, ti_add (by rw [til.2.1]; omega) (by rw [til.2.1]; omega), til.2.1]
  omega
theorem Rel_hill (h : Rel n s) (hn : n < 2000000000) (hE : zE hillS s s') (hH : RelH s'.1) (e10 : s'.1 64 10 = s.1 64 10 + 1) : Rel (n + 1) s' := by
  have q : ∀ o j, ¬ hillS o j → s'.1 o j = s.1 o j := hE.2
  exact Rel_10 h hn (fun o j w => by unfold hillS at w; unfold uS; omega) hE hH
    (RelO_c (q _ _ (by unfold hillS; omega)) (q _ _ (by unfold hillS; omega)) (q _ _ (by unfold hillS; omega)) (q _ _ (by unfold hillS; omega)) h.1.2.2.1)
    (RelT_c (fun o x y k => q o k (by unfold hillS; omega)) (fun o x y k => q o k (by unfold hillS; omega)) (q _ _ (by unfold hillS; omega)) (q _ _ (by unfold hillS; omega)) h.1.2.2.2.1) e10
theorem Rel_thing (h : Rel n s) (hn : n < 2000000000) (hE : zE thingS s s') (hT : RelT s'.1) (e10 : s'.1 64 10 = s.1 64 10 + 1) : Rel (n + 1) s' := by
  have q : ∀ o j, ¬ thingS o j → s'.1 o j = s.1 o j := hE.2
  exact Rel_10 h hn (fun o j w => by unfold thingS at w; unfold uS; omega) hE
    (RelH_c (fun o x y k => q o k (by unfold thingS; omega)) (q _ _ (by unfold thingS; omega)) (q _ _ (by unfold thingS; omega)) (q _ _ (by unfold thingS; omega)) (fun k => q _ _ (by unfold thingS; omega)) (fun k => q _ _ (by unfold thingS; omega)) h.1.2.1)
    (RelO_c (q _ _ (by unfold thingS; omega)) (q _ _ (by unfold thingS; omega)) (q _ _ (by unfold thingS; omega)) (q _ _ (by unfold thingS; omega)) h.1.2.2.1) hT e10
theorem Rel_off (h : Rel n s) (hn : n < 2000000000) (hE : zE offS s s') (hO : RelO s'.1) (e10 : s'.1 64 10 = s.1 64 10 + 1) : Rel (n + 1) s' := by
  have q : ∀ o j, ¬ offS o j → s'.1 o j = s.1 o j := hE.2
  exact Rel_10 h hn (fun o j w => by unfold offS at w; unfold uS; omega) hE
    (RelH_c (fun o x y k => q o k (by unfold offS; omega)) (q _ _ (by unfold offS; omega)) (q _ _ (by unfold offS; omega)) (q _ _ (by unfold offS; omega)) (fun k => q _ _ (by unfold offS; omega)) (fun k => q _ _ (by unfold offS; omega)) h.1.2.1) hO
    (RelT_c (fun o x y k => q o k (by unfold offS; omega)) (fun o x y k => q o k (by unfold offS; omega)) (q _ _ (by unfold offS; omega)) (q _ _ (by unfold offS; omega)) h.1.2.2.2.1) e10
theorem Rel_seer (h : Rel n s) (hE : zE seerS s s') (hS : RelS s'.1) (hn : nS s'.1 = nS s.1 + 1) (ho : ∀ i, i < nS s.1 → s'.1 170 i = s.1 170 i ∧ s'.1 171 i = s.1 171 i ∧ s'.1 69 i = s.1 69 i) : Rel (n + 1) s' := by
  obtain ⟨hC, hX, hQ, hA, hN, h10⟩ := h
  have q : ∀ o j, ¬ seerS o j → s'.1 o j = s.1 o j := hE.2
  have hF := hC.2.2.2.2.2.2
  have hL := hC.2.2.2.2.2.1
  have h60 := (Core_c7 hC).2.2
  have en : nK s'.1 = nK s.1 := by unfold nK; rw [q 164 24 (by unfold seerS; omega)]
  have e10 : s'.1 64 10 = s.1 64 10 := q _ _ (by unfold seerS; omega)
  have ek : ∀ k, k < nK s.1 → eqK s.1 s'.1 k := by
    intro k hk
    have hw := (seN hC.2.2.2.2.1 (hL.2.2 k hk).2.1).1
    exact ⟨fun t => ⟨fun o a b k => q o k (by unfold seerS; omega), q _ _ (by unfold seerS; omega), fun o a b => q _ _ (by unfold seerS; omega)⟩, q _ _ (by unfold seerS; omega), q _ _ (by unfold seerS; omega), q _ _ (by unfold seerS; omega), fun j => q _ _ (by unfold seerS; omega), (ho _ hw).1, (ho _ hw).2.1⟩
  have h18 : (s.1 164 18).toInt ≤ (s'.1 164 18).toInt := by
    have a := ti_tn hC.2.2.2.2.1.1.1
    have b := ti_tn hS.1.1
    unfold nS at hn
    omega
  refine ⟨⟨zE_K hE hC.1, RelH_c (fun o x y k => q o k (by unfold seerS; omega)) (q _ _ (by unfold seerS; omega)) (q _ _ (by unfold seerS; omega)) (q _ _ (by unfold seerS; omega)) (fun k => q _ _ (by unfold seerS; omega)) (fun k => q _ _ (by unfold seerS; omega)) hC.2.1,
    RelO_c (q _ _ (by unfold seerS; omega)) (q _ _ (by unfold seerS; omega)) (q _ _ (by unfold seerS; omega)) (q _ _ (by unfold seerS; omega)) hC.2.2.1,
    RelT_c (fun o x y k => q o k (by unfold seerS; omega)) (fun o x y k => q o k (by unfold seerS; omega)) (q _ _ (by unfold seerS; omega)) (q _ _ (by unfold seerS; omega)) hC.2.2.2.1, hS,
    RelL_c (fun o x y k hk => q o k (by unfold seerS; omega)) (fun o x y k => q o k (by unfold seerS; omega)) (q _ _ (by unfold seerS; omega)) (q _ _ (by unfold seerS; omega)) h18 hL,
    RelF_eq e10 (fun k hk => Or.inl ⟨by omega, q _ _ (by unfold seerS; omega), q _ _ (by unfold seerS; omega), ek k (by omega)⟩) hF⟩,
    RelX_c (fun k => q _ _ (by unfold seerS; omega)) (fun k => q _ _ (by unfold seerS; omega)) (q _ _ (by unfold seerS; omega)) (q _ _ (by unfold seerS; omega)) hX,
    RelQ_c hE (fun p k w => by unfold seerS at w; unfold rqS; have := hC.1.2; omega) hQ,
    RelA_eq hF.1 e10 (fun k hk => Or.inl ⟨by omega, q _ _ (by unfold seerS; omega), q _ _ (by unfold seerS; omega), q _ _ (by unfold seerS; omega), ek k (by omega)⟩) hA, by rw [hE.1]; exact hN, by rw [e10]; omega⟩
/-- calls that write tellings: rows below k0 stay, new ones are stamped 0 -/
def tlS (k0 : Nat) : Nat → Nat → Prop := fun o j => lkS o j ∨ (o = 64 ∧ (j = 18 ∨ j = 7)) ∨ (o = 164 ∧ j = 24) ∨ (104 + k0 ≤ o ∧ o < 164 ∧ ¬ j = 9 ∧ ¬ j = 11 ∧ ¬ j = 12) ∨ (183 + k0 ≤ o ∧ o < 243)
theorem Rel_tl {k0 : Nat} (h : Rel n s) (h0 : k0 ≤ nK s.1) (hE : zD (tlS k0) s s') (hL : RelL s'.1) (hk : ∀ k, k < nK s'.1 → k < k0 ∨ (s'.1 (104 + k) 10 = 0 ∧ s'.1 (104 + k) 13 = 0)) : Rel (n + 1) s' := by
  obtain ⟨hC, hX, hQ, hA, hN, h10⟩ := h
  have q : ∀ o j, ¬ tlS k0 o j → s'.1 o j = s.1 o j := hE.2
  have hF := hC.2.2.2.2.2.2
  have h60 := (Core_c7 hC).2.2
  have e10 : s'.1 64 10 = s.1 64 10 := q _ _ (by unfold tlS lkS; omega)
  have ek : ∀ k, k < k0 → eqK s.1 s'.1 k := fun k hk =>
    ⟨fun t => ⟨fun o a b k => q o k (by unfold tlS lkS; omega), q _ _ (by unfold tlS lkS; omega), fun o a b => q _ _ (by unfold tlS lkS; omega)⟩, q _ _ (by unfold tlS lkS; omega), q _ _ (by unfold tlS lkS; omega), q _ _ (by unfold tlS lkS; omega), fun j => q _ _ (by unfold tlS lkS; omega), q _ _ (by unfold tlS lkS; omega), q _ _ (by unfold tlS lkS; omega)⟩
  have n60' : nK s'.1 ≤ 60 := RN_l hL.1
  refine ⟨⟨zD_K hE hC.1, RelH_c (fun o x y k => q o k (by unfold tlS lkS; omega)) (q _ _ (by unfold tlS lkS; omega)) (q _ _ (by unfold tlS lkS; omega)) (q _ _ (by unfold tlS lkS; omega)) (fun k => q _ _ (by unfold tlS lkS; omega)) (fun k => q _ _ (by unfold tlS lkS; omega)) hC.2.1,
    RelO_c (q _ _ (by unfold tlS lkS; omega)) (q _ _ (by unfold tlS lkS; omega)) (q _ _ (by unfold tlS lkS; omega)) (q _ _ (by unfold tlS lkS; omega)) hC.2.2.1,
    RelT_c (fun o x y k => q o k (by unfold tlS lkS; omega)) (fun o x y k => q o k (by unfold tlS lkS; omega)) (q _ _ (by unfold tlS lkS; omega)) (q _ _ (by unfold tlS lkS; omega)) hC.2.2.2.1,
    RelS_c (q _ _ (by unfold tlS lkS; omega)) (q _ _ (by unfold tlS lkS; omega)) (fun k => q _ _ (by unfold tlS lkS; omega)) (fun k => q _ _ (by unfold tlS lkS; omega)) (fun k => q _ _ (by unfold tlS lkS; omega)) hC.2.2.2.2.1, hL,
    RelF_eq e10 (fun k hkk => ?_) hF⟩,
    RelX_c (fun k => q _ _ (by unfold tlS lkS; omega)) (fun k => q _ _ (by unfold tlS lkS; omega)) (q _ _ (by unfold tlS lkS; omega)) (q _ _ (by unfold tlS lkS; omega)) hX,
    ?_, RelA_eq hF.1 e10 (fun k hkk => ?_) hA, by rw [hE.1]; exact hN, by rw [e10]; omega⟩
  · rcases hk k hkk with w | w
    · exact Or.inl ⟨by omega, q _ _ (by unfold tlS lkS; omega), q _ _ (by unfold tlS lkS; omega), ek k w⟩
    · exact Or.inr w.1
  · obtain ⟨rq, a, b, c, e⟩ := hQ
    have hr : s'.2.2.1 64 15 = s.2.2.1 64 15 := by rw [hE.1]
    have ho := rn_or hC.1
    refine ⟨rq, a, b, ?_, rqM_c (fun k => q _ _ (by unfold tlS lkS; omega)) (fun k => q _ _ (by unfold tlS lkS; omega)) (fun k => q _ _ (by unfold tlS lkS; omega)) (fun k => q _ _ (by unfold tlS lkS; omega)) (q _ _ (by unfold tlS lkS; omega)) (q _ _ (by unfold tlS lkS; omega)) e⟩
    rw [hr]
    exact rqC_c (fun k => q _ _ (by unfold tlS lkS; omega)) (fun k => q _ _ (by unfold tlS lkS; omega)) (fun k => q _ _ (by unfold tlS lkS; omega)) (fun k => q _ _ (by unfold tlS lkS; omega)) (fun k => q _ _ (by unfold tlS lkS; omega)) c
  · rcases hk k hkk with w | w
    · exact Or.inl ⟨by omega, q _ _ (by unfold tlS lkS; omega), q _ _ (by unfold tlS lkS; omega), q _ _ (by unfold tlS lkS; omega), ek k w⟩
    · exact Or.inr w.2
end RK
