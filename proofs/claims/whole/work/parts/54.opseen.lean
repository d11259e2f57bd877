/-! ===== seen: both sides ===== -/
theorem seN {I : zM2} {p : Int32} (hS : RelS I) (h : bR 0 ((I 164 18).toInt - 1) p = true) : p.toNatClampNeg < nS I ∧ vp_in p 20 := by
  have b := bR_t.mp h
  have h1 := hS.1.2
  have h2 := ti_tn hS.1.1
  have h3 := ti_tn b.1
  refine ⟨by unfold nS; omega, vin_i b.1 (by omega)⟩
theorem tOK_per {I : zM2} {t : Nat} (ho : tOK I t) : I 172 t = 3 → ¬ I 180 t = 0 := by
  intro k3 e
  have h0 : ¬ I 172 t = 0 := by rw [k3]; decide
  have o2 := (ho.2.resolve_left (fun w => h0 w.1)).2
  rcases o2.2.2.2.2.2.2 with w | w
  · have b := bR_t.mp w.2.2.2.2.2.1
    rw [e, til.1] at b
    omega
  · exact w.1 k3
/-- scratch of a look, on both sides -/
def lkS : Nat → Nat → Prop := fun o k => o = 68 ∨ (o = 164 ∧ (k = 20 ∨ k = 21 ∨ k = 22))
theorem lk68 {s s' : zS} (h : zE s68 s s') : zE lkS s s' := zE_m h (fun o k w => Or.inl w)
theorem lkAt {s s' : zS} (h : zE atS s s') : zE lkS s s' := zE_m h (fun o k w => Or.inr w)
theorem same_lk {s s' : zS} (h : zE lkS s s') (t : Nat) : sameT s.1 s'.1 t :=
  ⟨fun o a b k => h.2 o k (by unfold lkS; omega), h.2 164 17 (by simp [lkS]), fun o a b => h.2 o t (by unfold lkS; omega)⟩
theorem litF_c {I I' : zM2} {t : Nat} (h : sameT I I' t) (m : Int32) : litF I' t m = litF I t m := by
  obtain ⟨a, b, c, e, f, u, v, w, x, y⟩ := sT h
  unfold litF; rw [pIs_c h, a, x, y]
theorem wyF_c {I I' : zM2} {t i : Nat} (h : sameT I I' t) (h3 : I' 170 i = I 170 i) (h4 : I' 171 i = I 171 i) (m : Int32) : wyF I' t i m = wyF I t i m := by
  obtain ⟨a, b, c, e, f, u, v, w, x, y⟩ := sT h
  unfold wyF; rw [pX_c h, pY_c h, a, v, w, h3, h4]
theorem slF_c {I I' : zM2} {t i : Nat} (h : sameT I I' t) (h3 : I' 170 i = I 170 i) (h4 : I' 171 i = I 171 i) (m : Int32) : slF I' t i m = slF I t i m := by
  obtain ⟨a, b, c, e, f, u, v, w, x, y⟩ := sT h
  unfold slF; rw [pX_c h, pY_c h, pZ_c h, a, u, h3, h4, mG_c h.1 h.2.1]
theorem shF_c {I I' : zM2} {t i : Nat} (h : sameT I I' t) (h3 : I' 170 i = I 170 i) (h4 : I' 171 i = I 171 i) (m : Int32) : shF I' t i m = shF I t i m := by
  obtain ⟨a, b, c, e, f, u, v, w, x, y⟩ := sT h
  unfold shF; rw [litF_c h, pX_c h, pY_c h, pZ_c h, a, hidF_c h.1 h.2.1 h3 h4]
