/-! ===== hill: the call on both sides ===== -/
theorem hIn_c {I I' : zM2} (h : ∀ o, 165 ≤ o → o ≤ 169 → ∀ k, I' o k = I o k) (x y : Int32) (n : Nat) : hIn I' x y n = hIn I x y n := by
  unfold hIn
  rw [h 165 (by decide) (by decide), h 166 (by decide) (by decide), h 167 (by decide) (by decide), h 168 (by decide) (by decide)]
theorem mHn_c {I I' : zM2} (h : ∀ o, 165 ≤ o → o ≤ 169 → ∀ k, I' o k = I o k) (x y : Int32) : ∀ n, mHn I' x y n = mHn I x y n := by
  intro n
  induction n with
  | zero => rfl
  | succ n ih => unfold mHn; rw [ih, hIn_c h, h 169 (by decide) (by decide), h 169 (by decide) (by decide)]
theorem mH_c {I I' : zM2} (h : ∀ o, 165 ≤ o → o ≤ 169 → ∀ k, I' o k = I o k) (h2 : I' 164 17 = I 164 17) (x y : Int32) : mH I' x y = mH I x y := by
  unfold mH nHl; rw [h2, mHn_c h]
theorem mG_c {I I' : zM2} (h : ∀ o, 165 ≤ o → o ≤ 169 → ∀ k, I' o k = I o k) (h2 : I' 164 17 = I 164 17) (x y : Int32) : mG I' x y = mG I x y := by
  unfold mG; rw [mH_c h h2, h 169 (by decide) (by decide)]
theorem RelH_c {I I' : zM2} (h : ∀ o, 165 ≤ o → o ≤ 169 → ∀ k, I' o k = I o k) (h2 : I' 164 17 = I 164 17) (h3 : I' 65 3 = I 65 3) (h4 : I' 65 2 = I 65 2) (h5 : ∀ k, I' 66 k = I 66 k) (h6 : ∀ k, I' 67 k = I 67 k) (hH : RelH I) : RelH I' := by
  obtain ⟨a, b, c, e, f⟩ := hH
  refine ⟨?_, by rw [h3, h2]; exact b, ?_, ?_, ?_⟩
  · unfold RN; rw [h2]; exact a
  · intro n hn
    rw [h 165 (by decide) (by decide), h 166 (by decide) (by decide), h 167 (by decide) (by decide), h 168 (by decide) (by decide), h 169 (by decide) (by decide), h4]
    exact c n (by unfold nHl at hn; rw [h2] at hn; exact hn)
  · unfold RN; rw [h4]; exact e
  · intro x y
    rw [h5, h6, mG_c h h2, mH_c h h2]
    exact f x y
def hillS : Nat → Nat → Prop := fun o k => o = 66 ∨ o = 67 ∨ (o = 65 ∧ (k = 2 ∨ k = 3)) ∨ (o = 64 ∧ k = 10) ∨ (165 ≤ o ∧ o ≤ 169) ∨ (o = 164 ∧ k = 17)
section OH
variable {l : Launch} {g : zG} {d : Nat} {s : zS} {p q ht : Int32}
theorem c_raise (hR : zRok s) {K : Int32 → zS → Prop} (hH : RelH s.1) (hp : bR 0 4095 p = true) (hq : bR 0 4095 q = true)
    (h1 : s.1 164 17 = 8 → K (-1) s)
    (h2 : ¬ s.1 164 17 = 8 → ∀ s', zE gS s s' → JH s.1 ht (fun x y => (zmin (p / 64) (q / 64)).toInt ≤ x.toInt ∧ x.toInt ≤ (zmax (p / 64) (q / 64)).toInt ∧ (zmin (p % 64) (q % 64)).toInt ≤ y.toInt ∧ y.toInt ≤ (zmax (p % 64) (q % 64)).toInt) s'.1 → K (s.1 164 17) (zI (zI s' 65 2 (zmax (s.1 65 2) ht)) 65 3 (s.1 164 17 + 1))) :
    zc l g (d + 1) M_X1_raise [.ref 65, .int p, .int q, .int ht] s (zKi K) := by
  have hP := pl_64 hp
  have hQ := pl_64 hq
  refine t_X1_raise hR ?_
  have hc := hH.1
  unfold RN at hc
  rw [hH.2.1]
  by_cases w : s.1 164 17 = 8
  · rw [if_neg (by rw [w]; decide)]; exact h1 w
  · rw [if_pos (by rw [ti_eq] at w; rw [ti_lt]; simp only [til] at w ⊢; omega)]
    intro v1 hv1 v2 hv2 v3 hv3
    have a1 := zmin_i (p / 64) (q / 64)
    have a2 := zmax_i (p / 64) (q / 64)
    have a3 := zmin_i (p % 64) (q % 64)
    have a4 := zmax_i (p % 64) (q % 64)
    subst hv1 hv2 hv3
    refine c_raise_50 hR (x0 := (zmin (p / 64) (q / 64)).toInt) (by omega) (by omega) (by omega) rfl (by omega) (by omega) ?_ ((zmax (p / 64) (q / 64)).toInt + 1 - (zmin (p / 64) (q / 64)).toInt).toNat _ s (by omega) (by omega) zE_r ?_
    · intro s' hE hJ
      have := h2 w s' hE (JH_c hJ (by intro x y _ _ _ _; simp only [dR]; omega))
      rw [hE.2 65 3 (by simp [gS]), hE.2 65 2 (by simp [gS]), hH.2.1]
      exact this
    · intro x y b1 b2 b3 b4
      have e := hH.2.2.2.2 x y b1 b2 b3 b4
      refine ⟨fun u => ?_, fun _ => e⟩
      exfalso
      have := u.1
      simp only [dR] at this
      omega
theorem op_hill (hR : zRok s) {Q : zS → Prop} (hH : RelH s.1) (h1 : Q s) (h2 : ∀ s', zE hillS s s' → RelH s'.1 → s'.1 64 10 = s.1 64 10 + 1 → Q s') :
    zc l g (d + 2) M_X7_hill [.ref 64, .int p, .int q, .int ht] s (zKi fun r s5 => zc l g (d + 2) M_X8_hill [.ref 164, .int p, .int q, .int ht] s5 (zKi fun r' s10 => r = r' ∧ Q s10)) := by
  have rej : ∀ (s5 : zS), s5 = s → ¬ (bR 0 4095 p = true ∧ bR 0 4095 q = true ∧ bR 1 60 ht = true ∧ ¬ s.1 164 17 = 8) → zc l g (d + 2) M_X8_hill [.ref 164, .int p, .int q, .int ht] s5 (zKi fun r' s10 => (-1 : Int32) = r' ∧ Q s10) := by
    intro s5 e w
    subst e
    refine t_X8_hill hR (t_X8_isPlace hR ⟨rfl, ?_⟩)
    rw [bR_z]
    simp only [tiL]
    by_cases q1 : bR 0 4095 p = true
    · rw [if_pos q1]
      refine t_X8_isPlace hR ⟨rfl, ?_⟩
      rw [bR_z]
      simp only [tiL]
      by_cases q2 : bR 0 4095 q = true
      · rw [if_pos q2, bR_z]
        simp only [tiL]
        by_cases q3 : bR 1 60 ht = true
        · rw [if_pos q3]
          by_cases q4 : s5.1 164 17 = 8
          · rw [if_pos q4]; exact ⟨trivial, h1⟩
          · exact absurd ⟨q1, q2, q3, q4⟩ w
        · rw [if_neg q3]; exact ⟨trivial, h1⟩
      · rw [if_neg q2]; exact ⟨trivial, h1⟩
    · rw [if_neg q1]; exact ⟨trivial, h1⟩
  refine t_X7_hill hR (c_isPlace hR ⟨rfl, ?_⟩)
  by_cases q1 : bR 0 4095 p = true
  rotate_left
  · rw [if_neg q1]; exact rej s rfl (fun w => q1 w.1)
  rw [if_pos q1]
  refine c_isPlace hR ⟨rfl, ?_⟩
  by_cases q2 : bR 0 4095 q = true
  rotate_left
  · rw [if_neg q2]; exact rej s rfl (fun w => q2 w.2.1)
  rw [if_pos q2]
  by_cases q3 : bR 1 60 ht = true
  rotate_left
  · have r0 := rej s rfl (fun w => q3 w.2.2.1)
    have q3' : ¬ (1 ≤ ht.toInt ∧ ht.toInt ≤ 60) := fun w => q3 (bR_t.mpr w)
    simp only [ti_lt, ti_le, til]
    by_cases u : ht.toInt < 1
    · rw [if_pos u]; exact r0
    · rw [if_neg u, if_neg (by omega)]; exact r0
  have q3' := bR_t.mp q3
  rw [if_neg (by rw [ti_lt]; simp only [til]; omega), if_pos (by rw [ti_le]; simp only [til]; omega)]
  refine c_raise hR hH q1 q2 ?_ ?_
  · intro q4
    refine ⟨rfl, ?_⟩
    rw [if_pos rfl]
    exact rej s rfl (fun w => w.2.2.2 q4)
  intro q4 s' hE hJ
  refine ⟨?_, ?_⟩
  · show s'.2.2.1 = s.2.2.1
    exact zE_R hE
  have hc := hH.1
  rw [if_neg (by unfold RN at hc; rw [ti_eq]; simp only [til]; omega)]
  generalize hs5 : zI (zI (zI s' 65 2 (zmax (s.1 65 2) ht)) 65 3 (s.1 164 17 + 1)) 64 10 _ = s5
  have hE5 : zE hillS s s5 := by
    rw [← hs5]
    exact zE_i (zE_i (zE_i (zE_m hE (by intro o k w; rcases w with w | w <;> simp [hillS, w])) (by simp [hillS])) (by simp [hillS])) (by simp [hillS])
  have hR5 := zE_K hE5 hR
  have m1 : ∀ o k, ¬ o = 66 → ¬ o = 67 → ¬ (o = 65 ∧ k = 2) → ¬ (o = 65 ∧ k = 3) → ¬ (o = 64 ∧ k = 10) → s5.1 o k = s.1 o k := by
    intro o k a1 a2 a3 a4 a5
    rw [← hs5, zI_1, if_neg a5, zI_1, if_neg a4, zI_1, if_neg a3]
    exact hE.2 o k (by simp [gS, a1, a2])
  have e10 : s5.1 64 10 = s.1 64 10 + 1 := by
    rw [← hs5, zI_eq, zI_o (by decide), zI_o (by decide), hE.2 64 10 (by simp [gS])]
  have e17 : s5.1 164 17 = s.1 164 17 := m1 _ _ (by decide) (by decide) (by decide) (by decide) (by decide)
  have e652 : s5.1 65 2 = zmax (s.1 65 2) ht := by rw [← hs5, zI_o (by decide), zI_k (by decide), zI_eq]
  have e653 : s5.1 65 3 = s.1 164 17 + 1 := by rw [← hs5, zI_o (by decide), zI_eq]
  have e66 : ∀ k, s5.1 66 k = s'.1 66 k := fun k => by rw [← hs5, zI_o (by decide), zI_o (by decide), zI_o (by decide)]
  have e67 : ∀ k, s5.1 67 k = s'.1 67 k := fun k => by rw [← hs5, zI_o (by decide), zI_o (by decide), zI_o (by decide)]
  have hn5 : RN s5.1 164 17 8 := by unfold RN; rw [e17]; exact hc
  have enH : nHl s5.1 = nHl s.1 := by unfold nHl; rw [e17]
  have hl8 : nHl s.1 < 8 := by
    have := RN_l hc
    have e := RN_n hc
    rcases Nat.lt_or_ge (nHl s.1) 8 with w | w
    · exact w
    · exfalso
      have : nHl s.1 = 8 := by unfold nHl at w ⊢; omega
      apply q4
      rw [e]
      show nI (nHl s.1) = 8
      rw [this]; rfl
  have hv : vp_in (s5.1 164 17) 8 := by rw [e17, RN_n hc]; exact vp_in_nI hl8 (by decide)
  refine t_X8_hill hR5 (t_X8_isPlace hR5 ⟨rfl, ?_⟩)
  rw [bR_z]; simp only [tiL]; rw [if_pos q1]
  refine t_X8_isPlace hR5 ⟨rfl, ?_⟩
  rw [bR_z]; simp only [tiL]; rw [if_pos q2, bR_z]; simp only [tiL]
  rw [if_pos q3, if_neg (by rw [e17]; exact q4)]
  refine ⟨hv, hv, hv, hv, hv, ?_⟩
  show _ ∧ Q (hillW s5 p q ht)
  have hP := pl_64 q1
  have hQ := pl_64 q2
  refine ⟨?_, h2 _ ?_ ?_ ?_⟩
  · rw [e17, RN_n hc, ← nI_succ, nI_pred]
  · exact zE_i (zE_i (zE_i (zE_i (zE_i (zE_i hE5 (by simp [hillS])) (by simp [hillS])) (by simp [hillS])) (by simp [hillS])) (by simp [hillS])) (by simp [hillS])
  · have hh : ∀ o, 165 ≤ o → o ≤ 169 → ∀ k, s5.1 o k = s.1 o k := fun o a b k => m1 o k (by omega) (by omega) (by omega) (by omega) (by omega)
    have a1 := zmin_i (p / 64) (q / 64)
    have a2 := zmax_i (p / 64) (q / 64)
    have a3 := zmin_i (p % 64) (q % 64)
    have a4 := zmax_i (p % 64) (q % 64)
    have hmx := zmax_i (s.1 65 2) ht
    have e65 : (hillW s5 p q ht).1 65 2 = zmax (s.1 65 2) ht := by simp [hillW, zI_1, e652]
    have h652 := hH.2.2.2.1
    unfold RN at h652
    refine ⟨?_, ?_, ?_, ?_, ?_⟩
    · have : (hillW s5 p q ht).1 164 17 = nI (nHl s.1 + 1) := by
        rw [hillW, zI_eq, e17, nI_succ]
        conv => lhs; rw [RN_n hc]
        rfl
      unfold RN
      rw [this, nI_toInt (by omega)]
      omega
    · simp [hillW, zI_1, e653, e17]
    · intro h hh2
      rw [nHl_new hn5, enH] at hh2
      rw [e65]
      by_cases w : h = nHl s.1
      · subst w
        simp [hillW, zI_1, enH]
        rw [a1, a2, a3, a4]
        omega
      · have old := hH.2.2.1 h (by omega)
        have wn : ¬ h = nHl s5.1 := by rw [enH]; exact w
        simp [hillW, zI_1, wn]
        rw [hh 165 (by decide) (by decide), hh 166 (by decide) (by decide), hh 167 (by decide) (by decide), hh 168 (by decide) (by decide), hh 169 (by decide) (by decide)]
        omega
    · unfold RN; rw [e65]; omega
    · intro x y b1 b2 b3 b4
      obtain ⟨f1, f2⟩ := mH_new (s := s5) (p := p) (q := q) (ht := ht) (x := x) (y := y) hn5 q3'.1
      rw [f1, f2, mG_c hh e17, mH_c hh e17, enH]
      have hin : hIn (hillW s5 p q ht).1 x y (nHl s.1) = true ↔ ((zmin (p / 64) (q / 64)).toInt ≤ x.toInt ∧ x.toInt ≤ (zmax (p / 64) (q / 64)).toInt ∧ (zmin (p % 64) (q % 64)).toInt ≤ y.toInt ∧ y.toInt ≤ (zmax (p % 64) (q % 64)).toInt) := by
        simp only [hIn, hillW, zI_1, enH, Bool.and_eq_true, bR_t]
        simp
        omega
      simp only [hin]
      have j := hJ x y b1 b2 b3 b4
      have g66 : (hillW s5 p q ht).1 66 (x * 64 + y).toNatClampNeg = s'.1 66 (x * 64 + y).toNatClampNeg := by simp [hillW, zI_1, e66]
      have g67 : (hillW s5 p q ht).1 67 (x * 64 + y).toNatClampNeg = s'.1 67 (x * 64 + y).toNatClampNeg := by simp [hillW, zI_1, e67]
      rw [g66, g67]
      by_cases w : ((zmin (p / 64) (q / 64)).toInt ≤ x.toInt ∧ x.toInt ≤ (zmax (p / 64) (q / 64)).toInt ∧ (zmin (p % 64) (q % 64)).toInt ≤ y.toInt ∧ y.toInt ≤ (zmax (p % 64) (q % 64)).toInt) ∧ mG s.1 x y < ht
      · rw [if_pos w, if_pos w]
        refine ⟨(j.1 w).1, ?_⟩
        rw [(j.1 w).2, hH.2.1]
        exact RN_n hc
      · rw [if_neg w, if_neg w]
        exact j.2 w
  · simp [hillW, zI_1, e10]
end OH
