/-! ===== draw: both sides ===== -/
section D2
variable {l : Launch} {g : zG} {d : Nat} {s0 s : zS} {k0 k v : Nat}
theorem zD_lg {S : Nat → Nat → Prop} {a b : zS} (h1 : b.1 = a.1) (h2 : b.2.2 = a.2.2) : zD S a b := ⟨h2, fun o k _ => by rw [h1]⟩
theorem m_draw1 (hB : dB s0) (hE : zD (drS k0) s0 s) (hT : 1 ≤ (s0.1 164 19).toInt) (hS : 1 ≤ (s0.1 164 18).toInt) (hv : (s.2.1 164 44).toInt = v) (h7 : s.1 164 24 = nI k) (hk6 : k ≤ 60) {x2 x3 x4 : Int32} (hx : ¬ x2 ≤ x4) {K : Int32 → zS → Prop}
    (hK1 : drK s0.1 v = true → k < 60 → ∀ s', zD (drM k) s s' → (s'.2.1 164 44).toInt = (lv 8 v : Nat) → s'.1 164 24 = nI (k + 1) → (∀ j, j < 9 → s'.1 (183 + k) j = rv (drow s0.1 v) j) → zt l g (d + 6) M_X8_draw 51 [.ref 164, zJ, .int x2, .int (x3 + 1), .int (x4 + 1), zJ, zJ, zJ, zJ, zJ, zJ, zJ, zJ, zJ, zJ, zJ] [] s' (zKi K))
    (hK0 : ¬ (drK s0.1 v = true ∧ k < 60) → ∀ s', zD lkS s s' → (s'.2.1 164 44).toInt = (lv 8 v : Nat) → s'.1 164 24 = nI k → zt l g (d + 6) M_X8_draw 51 [.ref 164, zJ, .int x2, .int x3, .int (x4 + 1), zJ, zJ, zJ, zJ, zJ, zJ, zJ, zJ, zJ, zJ, zJ] [] s' (zKi K)) :
    zt l g (d + 6) M_X8_draw 51 [.ref 164, zJ, .int x2, .int x3, .int x4, zJ, zJ, zJ, zJ, zJ, zJ, zJ, zJ, zJ, zJ, zJ] [] s (zKi K) := by
  obtain ⟨⟨hR, hH, hO, hTT, hSS⟩, e19, e18, e25, e26⟩ := dB_st hB hE
  have o25 := hB.2.2.1.2.2.1
  have o26 := hB.2.2.1.2.2.2
  have hp5 : 1 ≤ (2 * s0.1 164 25 + 1).toInt := two1 o25.1 (by have := o25.2; omega)
  have hp6 : 1 ≤ (2 * s0.1 164 26 + 1).toInt := two1 o26.1 o26.2
  refine t_X8_draw_51 (d := d + 5) hR ?_
  rw [if_neg hx, e19]
  refine m_lot (v := lv 0 v) hR hv hT (fun s1 a1 b1 v1 => ⟨by rw [b1], ?_⟩)
  rw [lv_s] at v1
  have R1 : zRok s1 := zRok_of (by rw [b1]) hR
  rw [a1, e18]
  refine m_lot (v := lv 1 v) R1 v1 hS (fun s2 a2 b2 v2 => ⟨by rw [b2], ?_⟩)
  rw [lv_s] at v2
  have R2 : zRok s2 := zRok_of (by rw [b2]) R1
  refine m_lot (v := lv 2 v) (p := 240) R2 v2 (by decide) (fun s3 a3 b3 v3 => ⟨by rw [b3], ?_⟩)
  rw [lv_s] at v3
  have R3 : zRok s3 := zRok_of (by rw [b3]) R2
  refine m_lot (v := lv 3 v) (p := 10) R3 v3 (by decide) (fun s4 a4 b4 v4 => ⟨by rw [b4], ?_⟩)
  rw [lv_s] at v4
  have R4 : zRok s4 := zRok_of (by rw [b4]) R3
  intro v9 e9
  have c4 : s4.1 = s.1 := by rw [a4, a3, a2, a1]
  rw [c4, e25]
  refine m_lot (v := lv 4 v) R4 v4 hp5 (fun s5 a5 b5 v5 => ⟨by rw [b5], ?_⟩)
  rw [lv_s] at v5
  have R5 : zRok s5 := zRok_of (by rw [b5]) R4
  have c5 : s5.1 = s.1 := by rw [a5, c4]
  rw [c5, e26, e25]
  refine m_lot (v := lv 5 v) R5 v5 hp6 (fun s6 a6 b6 v6 => ⟨by rw [b6], ?_⟩)
  rw [lv_s] at v6
  have R6 : zRok s6 := zRok_of (by rw [b6]) R5
  have c6 : s6.1 = s.1 := by rw [a6, c5]
  rw [c6, e26]
  refine m_lot (v := lv 6 v) (p := 9) R6 v6 (by decide) (fun s7 a7 b7 v7 => ⟨by rw [b7], ?_⟩)
  rw [lv_s] at v7
  have R7 : zRok s7 := zRok_of (by rw [b7]) R6
  refine m_lot (v := lv 7 v) (p := 2) R7 v7 (by decide) (fun s8 a8 b8 v8 => ⟨by rw [b8], ?_⟩)
  rw [lv_s] at v8
  have c8 : s8.1 = s.1 := by rw [a8, a7, c6]
  have d8 : s8.2.2 = s.2.2 := by rw [b8, b7, b6, b5, b4, b3, b2, b1]
  have hS8 : zD (drS k0) s0 s8 := zD_t hE (zD_lg c8 d8)
  obtain ⟨m1, m2, m3⟩ := dM_ok v
  have eM2 : v9 = dM2 v := by rw [e9]; exact zmin_c _ _
  rw [eM2]
  have e7 : s8.1 164 24 = nI k := by rw [c8]; exact h7
  have ep : 1000 * dM1 v + dM2 v = dM1 v * 1000 + dM2 v := by rw [Int32.mul_comm]
  have ep4 : 10 * nI (lotX (lv 7 v) 2) + (nI (lotX (lv 6 v) 9) + 1) = dP4 v := by rw [Int32.mul_comm]; rfl
  refine m_dtail (d := d) (k := k) (r2 := dR2 s0.1 v) (r5 := dR5 s0.1 v) (m1 := dM1 v) (m2 := dM2 v) (ow := dOw s0.1 v) (os := dOs s0.1 v) (p4 := dP4 v) hB hS8 (lot_b hT) (lot_b hS) m1 m2 m3 (dP4_ok v) e7 hk6 ep ep4 (A := fun s' => zt l g (d + 6) M_X8_draw 51 [.ref 164, zJ, .int x2, .int (x3 + 1), .int (x4 + 1), zJ, zJ, zJ, zJ, zJ, zJ, zJ, zJ, zJ, zJ, zJ] [] s' (zKi K)) (B := fun s' => zt l g (d + 6) M_X8_draw 51 [.ref 164, zJ, .int x2, .int x3, .int (x4 + 1), zJ, zJ, zJ, zJ, zJ, zJ, zJ, zJ, zJ, zJ, zJ] [] s' (zKi K)) (fun w1 w2 s9 hE9 u7 ur => ?_) (fun w1 s9 hE9 => ?_)
  · refine hK1 w1 w2 s9 (zD_t (zD_lg c8 d8) (zD_E hE9 (fun _ _ w => w))) ?_ u7 ur
    rw [show s9.2.1 = s8.2.1 by rw [hE9.1]]; exact v8
  · refine hK0 w1 s9 (zD_t (zD_lg c8 d8) (zD_E hE9 (fun _ _ w => w))) ?_ ?_
    · rw [show s9.2.1 = s8.2.1 by rw [hE9.1]]; exact v8
    · rw [hE9.2 164 24 (by unfold lkS; omega)]; exact e7
end D2
def r00 : rT := (0, 0, 0, 0, 0)
def drows (I : zM2) (k0 : Nat) : Nat → Nat → List rT → List rT
  | 0, _, rows => rows
  | m + 1, v, rows => drows I k0 m (lv 8 v) (if drK I v = true ∧ k0 + rows.length < 60 then rows ++ [drow I v] else rows)
theorem drows_y {I : zM2} {k0 m v : Nat} {rows : List rT} (h1 : drK I v = true) (h2 : k0 + rows.length < 60) : drows I k0 (m + 1) v rows = drows I k0 m (lv 8 v) (rows ++ [drow I v]) := by
  show drows I k0 m (lv 8 v) (if drK I v = true ∧ k0 + rows.length < 60 then rows ++ [drow I v] else rows) = _
  rw [if_pos ⟨h1, h2⟩]
theorem drows_n {I : zM2} {k0 m v : Nat} {rows : List rT} (h : ¬ (drK I v = true ∧ k0 + rows.length < 60)) : drows I k0 (m + 1) v rows = drows I k0 m (lv 8 v) rows := by
  show drows I k0 m (lv 8 v) (if drK I v = true ∧ k0 + rows.length < 60 then rows ++ [drow I v] else rows) = _
  rw [if_neg h]
theorem drow_ok {s0 : zS} (hT : 1 ≤ (s0.1 164 19).toInt) (hS : 1 ≤ (s0.1 164 18).toInt) (v : Nat) : tellV (s0.1 164 18).toInt (drow s0.1 v) := by
  obtain ⟨m1, m2, m3⟩ := dM_ok v
  exact row_ok (lot_b hS) m1 m2 m3 (dP4_ok v)
def cR (k0 : Nat) (s : zS) (rows : List rT) : Prop := s.1 64 7 = nI (k0 + rows.length) ∧ k0 + rows.length ≤ 60 ∧ ∀ i, i < rows.length → (∀ j, j < 9 → s.1 (104 + (k0 + i)) j = rv (rows.getD i r00) j) ∧ s.1 (104 + (k0 + i)) 10 = 0 ∧ s.1 (104 + (k0 + i)) 13 = 0
def mR (k0 : Nat) (s : zS) (rows : List rT) : Prop := s.1 164 24 = nI (k0 + rows.length) ∧ k0 + rows.length ≤ 60 ∧ ∀ i, i < rows.length → ∀ j, j < 9 → s.1 (183 + (k0 + i)) j = rv (rows.getD i r00) j
section D3
variable {l : Launch} {g : zG} {d : Nat} {s0 : zS} {k0 : Nat}
theorem c_draw_48 (hB : dB s0) (hT : 1 ≤ (s0.1 164 19).toInt) (hS : 1 ≤ (s0.1 164 18).toInt) {n : Nat} (hn : n ≤ 20) {R : List rT} {K : Int32 → zS → Prop} (hK : ∀ s', zD (drS k0) s0 s' → cR k0 s' R → (∀ r ∈ R, tellV (s0.1 164 18).toInt r) → s'.1 164 24 = s0.1 164 24 → K (nI R.length) s') :
    ∀ (m i v : Nat) (rows : List rT) (s : zS), i + m = n → zD (drS k0) s0 s → s.1 164 24 = s0.1 164 24 → s.1 64 18 = nI v → v < 2147483648 → cR k0 s rows → (∀ r ∈ rows, tellV (s0.1 164 18).toInt r) → drows s0.1 k0 m v rows = R →
    zt l g (d + 6) M_X7_draw 48 [.ref 64, zJ, .int (nI n), .int (nI rows.length), .int (nI i)] [] s (zKi K) := by
  intro m
  induction m with
  | zero =>
    intro i v rows s hi hE hl hv hv2 hr hval hR
    have : i = n := by omega
    subst this
    refine t_X7_draw_48 (d := d + 5) (zD_K hE hB.1) ?_
    rw [if_pos (nI_le (Nat.le_refl _) (by omega))]
    have hR2 : rows = R := hR
    subst hR2
    exact hK s hE hr hval hl
  | succ m ih =>
    intro i v rows s hi hE hl hv hv2 hr hval hR
    refine t_X7_draw_48 (d := d + 5) (zD_K hE hB.1) ?_
    rw [if_neg (nI_ge (by omega) (by omega))]
    have frame : ∀ s', zE (drD (k0 + rows.length)) s s' → k0 + rows.length < 60 → zD (drS k0) s0 s' := fun s' h w => zD_t hE (zD_E h (fun o j u => by unfold drD drC clS lkS lS18 at u; unfold drS lkS; omega))
    have old : ∀ s', zE (drD (k0 + rows.length)) s s' → ∀ i, i < rows.length → ∀ j, s'.1 (104 + (k0 + i)) j = s.1 (104 + (k0 + i)) j := fun s' h i hi j => h.2 _ _ (by have := hr.2.1; unfold drD drC clS lkS lS18; omega)
    refine c_draw1 (d := d) hB hE hT hS hv hv2 hr.1 hr.2.1 (fun w1 w2 s1 hE1 u18 u7 ur u10 u13 => ⟨zE_R hE1, ?_⟩) (fun w1 s1 hE1 u18 u7 => ⟨zE_R hE1, ?_⟩)
    · rw [if_pos rfl, ← nI_succ (n := i), ← nI_succ (n := rows.length)]
      rw [drows_y w1 w2] at hR
      have := ih (i + 1) (lv 8 v) (rows ++ [drow s0.1 v]) s1 (by omega) (frame s1 hE1 w2) (by rw [hE1.2 164 24 (by unfold drD drC clS lkS lS18; omega)]; exact hl) u18 (lots_lt hv2 8) ⟨?_, ?_, fun q hq => ?_⟩ (fun r hrm => ?_) hR
      · rw [List.length_append, List.length_singleton] at this
        exact this
      · rw [u7, List.length_append, List.length_singleton, Nat.add_assoc]
      · rw [List.length_append, List.length_singleton]; omega
      · rw [getD_snoc hq]
        by_cases e : q = rows.length
        · rw [if_pos e, e]; exact ⟨ur, u10, u13⟩
        · rw [if_neg e]
          rw [List.length_append, List.length_singleton] at hq
          have ho := hr.2.2 q (by omega)
          refine ⟨fun j hj => by rw [old s1 hE1 q (by omega)]; exact ho.1 j hj, by rw [old s1 hE1 q (by omega)]; exact ho.2.1, by rw [old s1 hE1 q (by omega)]; exact ho.2.2⟩
      · rcases List.mem_append.mp hrm with u | u
        · exact hval r u
        · rw [List.mem_singleton.mp u]; exact drow_ok hT hS v
    · rw [if_neg Bool.false_ne_true, ← nI_succ (n := i)]
      rw [drows_n w1] at hR
      have frame2 : zD (drS k0) s0 s1 := zD_t hE (zD_E hE1 (fun o j u => by unfold drN lkS lS18 at u; unfold drS lkS; omega))
      have old2 : ∀ i, i < rows.length → ∀ j, s1.1 (104 + (k0 + i)) j = s.1 (104 + (k0 + i)) j := fun i hi j => hE1.2 _ _ (by have := hr.2.1; unfold drN lkS lS18; omega)
      exact ih (i + 1) (lv 8 v) rows s1 (by omega) frame2 (by rw [hE1.2 164 24 (by unfold drN lkS lS18; omega)]; exact hl) u18 (lots_lt hv2 8) ⟨u7, hr.2.1, fun q hq => by
        have ho := hr.2.2 q hq
        exact ⟨fun j hj => by rw [old2 q hq]; exact ho.1 j hj, by rw [old2 q hq]; exact ho.2.1, by rw [old2 q hq]; exact ho.2.2⟩⟩ hval hR
theorem m_draw_51 (hB : dB s0) (hT : 1 ≤ (s0.1 164 19).toInt) (hS : 1 ≤ (s0.1 164 18).toInt) {n : Nat} (hn : n ≤ 20) {R : List rT} {sB : zS} {K : Int32 → zS → Prop} (hK : ∀ s', zD (drS k0) s0 s' → (∀ o j, (o < 164 ∨ 243 ≤ o) → ¬ o = 68 → s'.1 o j = sB.1 o j) → mR k0 s' R → K (nI R.length) s') :
    ∀ (m i v : Nat) (rows : List rT) (s : zS), i + m = n → zD (drS k0) s0 s → (∀ o j, (o < 164 ∨ 243 ≤ o) → ¬ o = 68 → s.1 o j = sB.1 o j) → (s.2.1 164 44).toInt = (v : Int) → mR k0 s rows → drows s0.1 k0 m v rows = R →
    zt l g (d + 6) M_X8_draw 51 [.ref 164, zJ, .int (nI n), .int (nI rows.length), .int (nI i), zJ, zJ, zJ, zJ, zJ, zJ, zJ, zJ, zJ, zJ, zJ] [] s (zKi K) := by
  intro m
  induction m with
  | zero =>
    intro i v rows s hi hE hc hv hr hR
    have : i = n := by omega
    subst this
    refine t_X8_draw_51 (d := d + 5) (zD_K hE hB.1) ?_
    rw [if_pos (nI_le (Nat.le_refl _) (by omega))]
    have hR2 : rows = R := hR
    subst hR2
    exact hK s hE hc hr
  | succ m ih =>
    intro i v rows s hi hE hc hv hr hR
    have hr60 := hr.2.1
    have frame : ∀ s', zD (drM (k0 + rows.length)) s s' → k0 + rows.length < 60 → zD (drS k0) s0 s' := fun s' h w => zD_t hE ⟨h.1, fun o j q => h.2 o j (fun u => q (by unfold drM mlT lkS at u; unfold drS lkS; omega))⟩
    have old : ∀ s', zD (drM (k0 + rows.length)) s s' → ∀ i, i < rows.length → ∀ j, s'.1 (183 + (k0 + i)) j = s.1 (183 + (k0 + i)) j := fun s' h i hi j => h.2 _ _ (by unfold drM mlT lkS; omega)
    have cl : ∀ s', zD (drM (k0 + rows.length)) s s' → k0 + rows.length < 60 → ∀ o j, (o < 164 ∨ 243 ≤ o) → ¬ o = 68 → s'.1 o j = sB.1 o j := fun s' h w o j q q2 => by
      rw [h.2 o j (by unfold drM mlT lkS; omega)]; exact hc o j q q2
    refine m_draw1 (d := d) hB hE hT hS hv hr.1 hr60 (nI_ge (by omega) (by omega)) (fun w1 w2 s1 hE1 u18 u7 ur => ?_) (fun w1 s1 hE1 u18 u7 => ?_)
    · rw [← nI_succ (n := i), ← nI_succ (n := rows.length)]
      rw [drows_y w1 w2] at hR
      have := ih (i + 1) (lv 8 v) (rows ++ [drow s0.1 v]) s1 (by omega) (frame s1 hE1 w2) (cl s1 hE1 w2) u18 ⟨?_, ?_, fun q hq => ?_⟩ hR
      · rw [List.length_append, List.length_singleton] at this
        exact this
      · rw [u7, List.length_append, List.length_singleton, Nat.add_assoc]
      · rw [List.length_append, List.length_singleton]; omega
      · rw [getD_snoc hq]
        by_cases e : q = rows.length
        · rw [if_pos e, e]; exact ur
        · rw [if_neg e]
          rw [List.length_append, List.length_singleton] at hq
          intro j hj
          rw [old s1 hE1 q (by omega)]
          exact hr.2.2 q (by omega) j hj
    · rw [← nI_succ (n := i)]
      rw [drows_n w1] at hR
      have old2 : ∀ i, i < rows.length → ∀ j, s1.1 (183 + (k0 + i)) j = s.1 (183 + (k0 + i)) j := fun i hi j => hE1.2 _ _ (by unfold lkS; omega)
      exact ih (i + 1) (lv 8 v) rows s1 (by omega) (zD_t hE ⟨hE1.1, fun o j q => hE1.2 o j (fun u => q (Or.inl u))⟩) (fun o j q q2 => by rw [hE1.2 o j (by unfold lkS; omega)]; exact hc o j q q2) u18 ⟨u7, hr60, fun q hq j hj => by rw [old2 q hq]; exact hr.2.2 q hq j hj⟩ hR
end D3
