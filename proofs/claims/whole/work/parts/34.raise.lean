/-! ===== raising a hill on the grid ===== -/
/-- the grid while hill number (I 65 3) of height ht is laid over the places of D -/
def JH (I0 : zM2) (ht : Int32) (D : Int32 → Int32 → Prop) (I : zM2) : Prop :=
  ∀ x y : Int32, 0 ≤ x.toInt → x.toInt ≤ 63 → 0 ≤ y.toInt → y.toInt ≤ 63 →
    ((D x y ∧ mG I0 x y < ht) → I 66 (x * 64 + y).toNatClampNeg = ht ∧ I 67 (x * 64 + y).toNatClampNeg = I0 65 3) ∧
    (¬ (D x y ∧ mG I0 x y < ht) → I 66 (x * 64 + y).toNatClampNeg = mG I0 x y ∧ I 67 (x * 64 + y).toNatClampNeg = mH I0 x y)
theorem JH_c {I0 I : zM2} {ht : Int32} {D D' : Int32 → Int32 → Prop} (h : JH I0 ht D I) (hd : ∀ x y, 0 ≤ x.toInt → x.toInt ≤ 63 → 0 ≤ y.toInt → y.toInt ≤ 63 → (D x y ↔ D' x y)) : JH I0 ht D' I := by
  intro x y a b c e
  have := h x y a b c e
  rw [hd x y a b c e] at this
  exact this
theorem i32_e {x y : Int32} (h : x.toInt = y.toInt) : x = y := ti_eq.mpr h
def gS : Nat → Nat → Prop := fun o _ => o = 66 ∨ o = 67
theorem JH_s {s0 s : zS} {ht : Int32} {D : Int32 → Int32 → Prop} {a b : Int32} (h : JH s0.1 ht D s.1) (e3 : s.1 65 3 = s0.1 65 3) (hD : ¬ D a b) (ha : 0 ≤ a.toInt) (ha2 : a.toInt ≤ 63) (hb : 0 ≤ b.toInt) (hb2 : b.toInt ≤ 63) :
    (ht ≤ s.1 66 (a * 64 + b).toNatClampNeg → JH s0.1 ht (fun x y => D x y ∨ (x = a ∧ y = b)) s.1) ∧
    (¬ ht ≤ s.1 66 (a * 64 + b).toNatClampNeg → JH s0.1 ht (fun x y => D x y ∨ (x = a ∧ y = b)) (zI (zI s 66 (a * 64 + b).toNatClampNeg ht) 67 (a * 64 + b).toNatClampNeg (s.1 65 3)).1) := by
  have hab := (h a b ha ha2 hb hb2).2 (fun w => hD w.1)
  have hg := gi_n ha ha2 hb hb2
  constructor
  · intro hle x y h1 h2 h3 h4
    have hxy := h x y h1 h2 h3 h4
    rw [hab.1] at hle
    by_cases q : x = a ∧ y = b
    · obtain ⟨rfl, rfl⟩ := q
      have : ¬ mG s0.1 x y < ht := by rw [ti_lt]; rw [ti_le] at hle; omega
      exact ⟨fun w => absurd w.2 this, fun _ => hab⟩
    · exact ⟨fun w => hxy.1 ⟨w.1.resolve_right q, w.2⟩, fun w => hxy.2 (fun v => w ⟨Or.inl v.1, v.2⟩)⟩
  · intro hle x y h1 h2 h3 h4
    have hxy := h x y h1 h2 h3 h4
    rw [hab.1] at hle
    by_cases q : x = a ∧ y = b
    · obtain ⟨rfl, rfl⟩ := q
      have h5 : mG s0.1 x y < ht := by rw [ti_lt]; rw [ti_le] at hle; omega
      refine ⟨fun _ => ?_, fun w => absurd ⟨Or.inr ⟨rfl, rfl⟩, h5⟩ w⟩
      rw [zI_o (by decide), zI_eq, zI_eq, e3]
      exact ⟨rfl, rfl⟩
    · have hn : ¬ (x * 64 + y).toNatClampNeg = (a * 64 + b).toNatClampNeg := by
        intro w
        have h6 := gi_n h1 h2 h3 h4
        apply q
        constructor <;> apply i32_e <;> omega
      rw [zI_o (by decide), zI_k hn, zI_k hn, zI_o (by decide)]
      exact ⟨fun w => hxy.1 ⟨w.1.resolve_right q, w.2⟩, fun w => hxy.2 (fun v => w ⟨Or.inl v.1, v.2⟩)⟩
def dR (x0 y0 tY x6 x7 : Int) (x y : Int32) : Prop := (x0 ≤ x.toInt ∧ x.toInt < x6 ∧ y0 ≤ y.toInt ∧ y.toInt ≤ tY) ∨ (x.toInt = x6 ∧ y0 ≤ y.toInt ∧ y.toInt < x7)
section HR
variable {l : Launch} {g : zG} {d : Nat} {s0 : zS} {p q ht tX tY : Int32} {K : Int32 → zS → Prop}
theorem c_raise_70 (hR : zRok s0) {x0 : Int} {x6 : Int32} (hx0 : x0 ≤ x6.toInt) (hx : 0 ≤ x6.toInt) (hx2 : x6.toInt ≤ 63) (ht2 : tY.toInt ≤ 63) {y0 : Int} (hy0 : 0 ≤ y0)
    (h : ∀ s, zE gS s0 s → JH s0.1 ht (dR x0 y0 tY.toInt (x6.toInt + 1) y0) s.1 → zt l g (d + 1) M_X1_raise 50 [.ref 65, .int p, .int q, .int ht, .int tX, .int tY, .int (x6 + 1), zJ] [] s (zKi K)) :
    ∀ m : Nat, ∀ x7 : Int32, ∀ s, y0 ≤ x7.toInt → x7.toInt ≤ tY.toInt + 1 → x7.toInt + m = tY.toInt + 1 → zE gS s0 s → JH s0.1 ht (dR x0 y0 tY.toInt x6.toInt x7.toInt) s.1 → zt l g (d + 1) M_X1_raise 70 [.ref 65, .int p, .int q, .int ht, .int tX, .int tY, .int x6, .int x7] [] s (zKi K) := by
  intro m
  induction m with
  | zero =>
    intro x7 s h1 h2 h3 hE hJ
    refine t_X1_raise_70 (zE_K hE hR) ?_
    rw [if_pos (by rw [ti_lt]; omega)]
    refine h s hE (JH_c hJ ?_)
    intro x y _ _ _ _
    simp only [dR]
    omega
  | succ m ih =>
    intro x7 s h1 h2 h3 hE hJ
    refine t_X1_raise_70 (zE_K hE hR) ?_
    rw [if_neg (by rw [ti_lt]; omega)]
    have hv := gi_v hx hx2 (show 0 ≤ x7.toInt by omega) (show x7.toInt ≤ 63 by omega)
    have e7 : (x7 + 1).toInt = x7.toInt + 1 := by
      have e1 : (1 : Int32).toInt = 1 := rfl
      rw [ti_add (by omega) (by omega), e1]
    have hs := JH_s hJ (hE.2 65 3 (by simp [gS])) (a := x6) (b := x7) (by simp only [dR]; omega) hx hx2 (by omega) (by omega)
    have hd : ∀ x y : Int32, 0 ≤ x.toInt → x.toInt ≤ 63 → 0 ≤ y.toInt → y.toInt ≤ 63 → ((dR x0 y0 tY.toInt x6.toInt x7.toInt x y ∨ (x = x6 ∧ y = x7)) ↔ dR x0 y0 tY.toInt x6.toInt (x7 + 1).toInt x y) := by
      intro x y _ _ _ _
      simp only [dR, e7, ti_eq]
      omega
    refine ⟨hv, ?_⟩
    by_cases w : ht ≤ s.1 66 (x6 * 64 + x7).toNatClampNeg
    · rw [if_pos w]
      exact ih (x7 + 1) s (by omega) (by omega) (by omega) hE (JH_c (hs.1 w) hd)
    · rw [if_neg w]
      exact ⟨hv, hv, ih (x7 + 1) _ (by omega) (by omega) (by omega) (zE_i (zE_i hE (Or.inl rfl)) (Or.inr rfl)) (JH_c (hs.2 w) hd)⟩
theorem c_raise_50 (hR : zRok s0) {x0 : Int} (hx0 : 0 ≤ x0) (tx : tX.toInt ≤ 63) (ht2 : tY.toInt ≤ 63) {yv : Int32} (hyv : yv = zmin (p % 64) (q % 64)) (hy0 : 0 ≤ yv.toInt) (hyt : yv.toInt ≤ tY.toInt)
    (h : ∀ s, zE gS s0 s → JH s0.1 ht (dR x0 yv.toInt tY.toInt (tX.toInt + 1) yv.toInt) s.1 → K (s.1 65 3) (zI (zI s 65 2 (zmax (s.1 65 2) ht)) 65 3 (s.1 65 3 + 1))) :
    ∀ m : Nat, ∀ x6 : Int32, ∀ s, x0 ≤ x6.toInt → x6.toInt + m = tX.toInt + 1 → zE gS s0 s → JH s0.1 ht (dR x0 yv.toInt tY.toInt x6.toInt yv.toInt) s.1 → zt l g (d + 1) M_X1_raise 50 [.ref 65, .int p, .int q, .int ht, .int tX, .int tY, .int x6, zJ] [] s (zKi K) := by
  intro m
  induction m with
  | zero =>
    intro x6 s h1 h3 hE hJ
    refine t_X1_raise_50 (zE_K hE hR) ?_
    rw [if_pos (by rw [ti_lt]; omega)]
    exact h s hE (by rw [show tX.toInt + 1 = x6.toInt by omega]; exact hJ)
  | succ m ih =>
    intro x6 s h1 h3 hE hJ
    refine t_X1_raise_50 (zE_K hE hR) ?_
    rw [if_neg (by rw [ti_lt]; omega)]
    have e7 : (x6 + 1).toInt = x6.toInt + 1 := by
      have e1 : (1 : Int32).toInt = 1 := rfl
      rw [ti_add (by omega) (by omega), e1]
    intro v1 hv1
    rw [hv1, ← hyv]
    refine c_raise_70 hR (x0 := x0) h1 (by omega) (by omega) ht2 (y0 := yv.toInt) hy0 ?_ (tY.toInt + 1 - yv.toInt).toNat yv s (by omega) (by omega) (by omega) hE hJ
    intro s' hE' hJ'
    exact ih (x6 + 1) s' (by omega) (by omega) hE' (by rw [e7]; exact hJ')
end HR
