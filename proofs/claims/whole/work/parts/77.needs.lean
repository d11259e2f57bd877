/-! ===== fewest: the class's needs ===== -/
def fwS : Nat → Nat → Prop := fun o j => fS o j ∨ o = 73 ∨ o = 243
theorem okS_fw : okS fwS := ⟨fun _ _ h => Or.inl h, fun o j h => by unfold fwS fS at h; unfold gSc; omega⟩
theorem Core_w {S : Nat → Nat → Prop} (hS : ∀ o j, S o j → o = 72 ∨ o = 73 ∨ o = 74 ∨ o = 91 ∨ o = 243 ∨ o = 260 ∨ o = 261 ∨ (o = 64 ∧ j = 18) ∨ o = 84 ∨ o = 90 ∨ o = 75 ∧ ¬ j = 1 ∨ o = 77 ∨ o = 78) {s s' : zS} (h : zE S s s') (hC : Core s) : Core s' := by
  refine Core_k h (fun o j w => by have := hS o j w; omega) hC (RelF_k hC.2.2.2.2.2.1 (eqM_g (S := S) (fun o j w => by have := hS o j w; unfold gSc; omega) h) ?_ ?_ hC.2.2.2.2.2.2)
  · exact h.2 64 10 (fun w => by have := hS _ _ w; omega)
  · intro q hq
    exact ⟨h.2 _ _ (fun w => by have := hS _ _ w; omega), h.2 _ _ (fun w => by have := hS _ _ w; omega)⟩
def w73 : Nat → Nat → Prop := fun o _ => o = 73
theorem Core_73 {s : zS} {k : Nat} {v : Int32} (hC : Core s) : Core (zI s 73 k v) := Core_w (S := w73) (fun o j w => by unfold w73 at w; omega) (zE_i0 rfl) hC
def w243 : Nat → Nat → Prop := fun o _ => o = 243
theorem Core_243 {s : zS} {k : Nat} {v : Int32} (hC : Core s) : Core (zI s 243 k v) := Core_w (S := w243) (fun o j w => by unfold w243 at w; omega) (zE_i0 rfl) hC
/-- the first n of the row are the fittings, not 0, of the first i tellings -/
def ndI (I : zM2) (J : zM2) (i n : Nat) : Prop := n ≤ i ∧ (∀ j, j < n → ¬ J 73 j = 0 ∧ ∃ k, k < i ∧ J 73 j = fitF I k) ∧ (∀ k, k < i → ¬ fitF I k = 0 → ∃ j, j < n ∧ J 73 j = fitF I k)
section GN
variable {l : Launch} {g : zG} {d : Nat} {s0 : zS} {K : Int32 → zS → Prop}
theorem c_needs_37 {s : zS} (hR : zRok s) {n i : Nat} {x : Int32} (hn : n < 60) (hA : (∀ j, j < n → ¬ s.1 73 j = x) → zt l g (d + 1) M_X7_gatherNeeds 4 [.ref 64, .int (nI (n + 1)), .int (nI (i + 1)), zJ, zJ, zJ] [] (zI s 73 n x) (zKi K))
    (hB : (∃ j, j < n ∧ s.1 73 j = x) → zt l g (d + 1) M_X7_gatherNeeds 4 [.ref 64, .int (nI n), .int (nI (i + 1)), zJ, zJ, zJ] [] s (zKi K)) :
    ∀ m j, j + m = n → (∀ j', j' < j → ¬ s.1 73 j' = x) → zt l g (d + 1) M_X7_gatherNeeds 37 [.ref 64, .int (nI n), .int (nI i), .int x, .int 0, .int (nI j)] [] s (zKi K) := by
  intro m
  induction m with
  | zero =>
    intro j hj hp
    refine t_X7_gatherNeeds_37 hR ?_
    rw [if_pos (nI_le (by omega) (by omega)), if_pos rfl, nI_clamp (by omega), ← nI_succ, ← nI_succ]
    exact ⟨vp_in_nI hn (by decide), hA (fun j' h => hp j' (by omega))⟩
  | succ m ih =>
    intro j hj hp
    refine t_X7_gatherNeeds_37 hR ?_
    rw [if_neg (nI_ge (by omega) (by omega)), if_pos rfl, nI_clamp (by omega), ← nI_succ]
    refine ⟨vp_in_nI (by omega) (by decide), ?_⟩
    by_cases c : s.1 73 j = x
    · rw [if_pos c]
      refine t_X7_gatherNeeds_37 hR ?_
      simp only [if_neg (show ¬ (1 : Int32) = 0 by decide), ite_self]
      rw [← nI_succ]
      exact hB ⟨j, by omega, c⟩
    · rw [if_neg c]
      exact ih (j + 1) (by omega) (fun j' h => by
        by_cases w : j' = j
        · rw [w]; exact c
        · exact hp j' (by omega))
theorem c_needs_4 (hK : ∀ n s', zE fwS s0 s' → Core s' → ndI s0.1 s'.1 (nK s0.1) n → K (nI n) s') : ∀ m i n s, i + m = nK s0.1 → zE fwS s0 s → Core s → ndI s0.1 s.1 i n → zt l g (d + 7) M_X7_gatherNeeds 4 [.ref 64, .int (nI n), .int (nI i), zJ, zJ, zJ] [] s (zKi K) := by
  intro m
  induction m with
  | zero =>
    intro i n s hi hE hC hI
    obtain ⟨e7, -, n60⟩ := Core_c7 hC
    have nk := (nK_g okS_fw.2 hE).1
    refine t_X7_gatherNeeds_4 hC.1 ?_
    rw [e7, if_pos (nI_le (by omega) (by omega))]
    exact hK n s hE hC (by rw [show nK s0.1 = i by omega]; exact hI)
  | succ m ih =>
    intro i n s hi hE hC hI
    obtain ⟨e7, -, n60⟩ := Core_c7 hC
    have nk := (nK_g okS_fw.2 hE).1
    refine t_X7_gatherNeeds_4 hC.1 ?_
    rw [e7, if_neg (nI_ge (by omega) (by omega)), nI_clamp (by omega)]
    refine ⟨vp_in_nI (by omega) (by decide), c_fitG (d := d) okS_fw hE hC (by omega) (fun s1 hE1 hE01 hC1 => ⟨zE_R hE1, ?_⟩)⟩
    have e73 : ∀ j, s1.1 73 j = s.1 73 j := fun j => hE1.2 _ _ (by unfold fS; omega)
    have hI1 : ndI s0.1 s1.1 i n := by unfold ndI at *; simp only [e73]; exact hI
    obtain ⟨i1, i2, i3⟩ := hI1
    have keep : (fitF s0.1 i = 0 ∨ ∃ j, j < n ∧ s1.1 73 j = fitF s0.1 i) → ndI s0.1 s1.1 (i + 1) n := by
      intro w
      refine ⟨by omega, fun j hj => ⟨(i2 j hj).1, ?_⟩, fun k hk hk0 => ?_⟩
      · obtain ⟨k, a, b⟩ := (i2 j hj).2
        exact ⟨k, by omega, b⟩
      · by_cases e : k = i
        · subst e
          exact w.resolve_left hk0
        · exact i3 k (by omega) hk0
    by_cases c : fitF s0.1 i = 0
    · rw [if_pos c]
      refine t_X7_gatherNeeds_37 hC1.1 ?_
      simp only [if_neg (show ¬ (1 : Int32) = 0 by decide), ite_self]
      rw [← nI_succ]
      exact ih (i + 1) n s1 (by omega) hE01 hC1 (keep (Or.inl c))
    · rw [if_neg c]
      refine c_needs_37 (d := d + 6) hC1.1 (by omega) (fun hn => ?_) (fun hn => ?_) n 0 (by omega) (fun j h => absurd h (by omega))
      · refine ih (i + 1) (n + 1) _ (by omega) (zE_i hE01 (Or.inr (Or.inl rfl))) (Core_73 hC1) ⟨by omega, fun j hj => ?_, fun k hk hk0 => ?_⟩
        · by_cases e : j = n
          · subst e
            rw [zI_eq]; exact ⟨c, i, by omega, rfl⟩
          · rw [zI_k e]
            obtain ⟨a0, k, a, b⟩ := i2 j (by omega)
            exact ⟨a0, k, by omega, b⟩
        · by_cases e : k = i
          · subst e
            exact ⟨n, by omega, by rw [zI_eq]⟩
          · obtain ⟨j, a, b⟩ := i3 k (by omega) hk0
            exact ⟨j, by omega, by rw [zI_k (by omega)]; exact b⟩
      · exact ih (i + 1) n s1 (by omega) hE01 hC1 (keep (Or.inr hn))
/-- all that is told meets set x -/
def allM (I : zM2) (x : Int32) : Prop := ∀ k, k < nK I → ¬ fitF I k = 0 → ¬ fitF I k &&& x = 0
theorem c_meets {s : zS} {n : Nat} {x : Int32} {KB : Bool → zS → Prop} (hR : zRok s) (hn : n ≤ 60) (hI : ndI s0.1 s.1 (nK s0.1) n) (h : ∀ b, (b = true ↔ allM s0.1 x) → KB b s) : zc l g d M_X7_meetsAll [.ref 64, .int x, .int (nI n)] s (zKz KB) := by
  refine t_X7_meetsAll hR ?_
  have key : ∀ m j, j + m = n → (∀ j', j' < j → ¬ s.1 73 j' &&& x = 0) → zt l g d M_X7_meetsAll 2 [.ref 64, .int x, .int (nI n), .int (nI j)] [] s (zKz KB) := by
    intro m
    induction m with
    | zero =>
      intro j hj hp
      refine t_X7_meetsAll_2 hR ?_
      rw [if_pos (nI_le (by omega) (by omega))]
      refine h true ⟨fun _ k hk hk0 => ?_, fun _ => rfl⟩
      obtain ⟨j', a, b⟩ := hI.2.2 k hk hk0
      rw [← b]; exact hp j' (by omega)
    | succ m ih =>
      intro j hj hp
      refine t_X7_meetsAll_2 hR ?_
      rw [if_neg (nI_ge (by omega) (by omega)), ← nI_succ, nI_clamp (by omega)]
      refine ⟨vp_in_nI (by omega) (by decide), ?_⟩
      by_cases c : s.1 73 j &&& x = 0
      · rw [if_pos c]
        refine h false ⟨fun w => absurd w (by decide), fun w => ?_⟩
        obtain ⟨a0, k, a, b⟩ := hI.2.1 j (by omega)
        exact absurd (by rw [← b]; exact c) (w k a (by rw [← b]; exact a0))
      · rw [if_neg c]
        exact ih (j + 1) (by omega) (fun j' hj' => by
          by_cases w : j' = j
          · rw [w]; exact c
          · exact hp j' (by omega))
  exact key n 0 (by omega) (fun j h => absurd h (by omega))
end GN
