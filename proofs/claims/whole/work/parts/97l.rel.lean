/-! ===== all that holds between calls ===== -/
def Rel (n : Nat) (s : zS) : Prop := Core s ∧ RelX s.1 ∧ RelQ s ∧ RelA s.1 ∧ s.2.2.2 = 200 ∧ (s.1 64 10).toInt ≤ n + 1
/-- the cells that a telling's fitting looks at -/
def eqK (I I' : zM2) (k : Nat) : Prop := (∀ t, sameT I I' t) ∧ I' 164 19 = I 164 19 ∧ I' 164 25 = I 164 25 ∧ I' 164 26 = I 164 26 ∧ (∀ j, I' (183 + k) j = I (183 + k) j) ∧ I' 170 (I (183 + k) 0).toNatClampNeg = I 170 (I (183 + k) 0).toNatClampNeg ∧ I' 171 (I (183 + k) 0).toNatClampNeg = I 171 (I (183 + k) 0).toNatClampNeg
section EK
variable {I I' : zM2} {k : Nat}
theorem neF_k (h : eqK I I' k) (t j1 j3 j4 : Nat) : neF I' t (183 + k) j1 j3 j4 = neF I t (183 + k) j1 j3 j4 := by
  obtain ⟨a, b, c, e, f, u, v⟩ := h
  unfold neF
  rw [f, f, f, f, shF_c (a t) u v, wyF_c (a t) u v, slF_c (a t) u v, nrF_c c e]
theorem fitF_k (h : eqK I I' k) : fitF I' k = fitF I k := by
  have hn : ∀ t, fitN I' k t = fitN I k t := by
    intro t
    induction t with
    | zero => rfl
    | succ t ih => unfold fitN; rw [ih, neF_k h, neF_k h]
  unfold fitF nT
  rw [h.2.1, hn]
theorem fitB_k (h : eqK I I' k) : fitB I' k = fitB I k := by
  have hn : ∀ t, fitM I' k t = fitM I k t := by
    intro t
    induction t with
    | zero => rfl
    | succ t ih => unfold fitM; rw [ih, neF_k h, neF_k h]
  unfold fitB nT
  rw [h.2.1, hn]
theorem askF_k (h : eqK I I' k) : askF I' k = askF I k := by
  have hb := fitB_k h
  obtain ⟨a, b, c, e, f, u, v⟩ := h
  have hp : parK I' k = parK I k := by
    funext n
    unfold parK
    rw [f 0, hb]
    generalize (I (183 + k) 0).toNatClampNeg = i at *
    unfold parN nT
    rw [b]
    have e1 : (fun t => shF I' t i (nI n)) = (fun t => shF I t i (nI n)) := funext fun t => shF_c (a t) u v (nI n)
    have e2 : wxF I' i (nI n) = wxF I i (nI n) := by
      funext p t
      unfold wxF
      rw [wyF_c (a p) u v, wyF_c (a t) u v, c]
    rw [e1, e2]
  unfold askF
  rw [f 1, f 2, hp]
theorem RelF_up (h10 : I' 64 10 = I 64 10 + 1) (hb : (I 64 10).toInt < 2147483647) (hn : nK I' = nK I) (hr : ∀ q, q < nK I → I' (104 + q) 10 = I (104 + q) 10) (hF : RelF I) : RelF I' := by
  have h1 := hF.1
  have e : (I' 64 10).toInt = (I 64 10).toInt + 1 := by rw [h10, ti_add (by rw [til.2.1]; omega) (by rw [til.2.1]; omega), til.2.1]
  refine ⟨by omega, fun q hq => ?_⟩
  rw [hn] at hq
  obtain ⟨a, b, -⟩ := hF.2 q hq
  rw [hr q hq]
  refine ⟨a, by omega, fun w => ?_⟩
  rw [ti_eq] at w
  omega
theorem RelA_up (h1 : 1 ≤ (I 64 10).toInt) (h10 : I' 64 10 = I 64 10 + 1) (hb : (I 64 10).toInt < 2147483647) (hn : nK I' = nK I) (hr : ∀ q, q < nK I → I' (104 + q) 13 = I (104 + q) 13) (hA : RelA I) : RelA I' := by
  have e : (I' 64 10).toInt = (I 64 10).toInt + 1 := by rw [h10, ti_add (by rw [til.2.1]; omega) (by rw [til.2.1]; omega), til.2.1]
  intro q hq
  rw [hn] at hq
  obtain ⟨a, b, -⟩ := hA q hq
  rw [hr q hq]
  refine ⟨a, by omega, fun w => ?_⟩
  rw [ti_eq] at w
  omega
theorem RelF_eq (h10 : I' 64 10 = I 64 10) (hr : ∀ q, q < nK I' → (q < nK I ∧ I' (104 + q) 10 = I (104 + q) 10 ∧ I' (104 + q) 9 = I (104 + q) 9 ∧ eqK I I' q) ∨ I' (104 + q) 10 = 0) (hF : RelF I) : RelF I' := by
  have h1 := hF.1
  refine ⟨by rw [h10]; exact h1, fun q hq => ?_⟩
  rcases hr q hq with ⟨a, b, c, e⟩ | a
  · rw [h10, b, c, fitF_k e]
    exact hF.2 q a
  · rw [a, h10]
    have z : (0 : Int32).toInt = 0 := rfl
    refine ⟨Int.le_refl _, by rw [z]; omega, fun w => ?_⟩
    rw [ti_eq, z] at w
    omega
theorem RelA_eq (h1 : 1 ≤ (I 64 10).toInt) (h10 : I' 64 10 = I 64 10) (hr : ∀ q, q < nK I' → (q < nK I ∧ I' (104 + q) 11 = I (104 + q) 11 ∧ I' (104 + q) 12 = I (104 + q) 12 ∧ I' (104 + q) 13 = I (104 + q) 13 ∧ eqK I I' q) ∨ I' (104 + q) 13 = 0) (hA : RelA I) : RelA I' := by
  intro q hq
  rcases hr q hq with ⟨a, b, c, e, f⟩ | a
  · rw [h10, b, c, e, askF_k f]
    exact hA q a
  · rw [a, h10]
    have z : (0 : Int32).toInt = 0 := rfl
    refine ⟨Int.le_refl _, by rw [z]; omega, fun w => ?_⟩
    rw [ti_eq, z] at w
    omega
end EK
/-- cells that Core and RelA look at -/
def cS : Nat → Nat → Prop := fun o j => (o = 64 ∧ j ≤ 10) ∨ (65 ≤ o ∧ o ≤ 67) ∨ o = 69 ∨ (92 ≤ o ∧ o < 164) ∨ (o = 164 ∧ (j = 17 ∨ j = 18 ∨ j = 19 ∨ j = 24 ∨ j = 25 ∨ j = 26)) ∨ (165 ≤ o ∧ o < 243)
section RX
variable {s s' : zS} {n : Nat}
theorem Core_x (hR : zRok s') (h : ∀ o j, cS o j → s'.1 o j = s.1 o j) (hC : Core s) : Core s' := by
  obtain ⟨-, b, c, e, f, u, v⟩ := hC
  refine ⟨hR, RelH_c (fun o x y k => h o k (by unfold cS; omega)) (h _ _ (by unfold cS; omega)) (h _ _ (by unfold cS; omega)) (h _ _ (by unfold cS; omega)) (fun k => h _ _ (by unfold cS; omega)) (fun k => h _ _ (by unfold cS; omega)) b,
    RelO_c (h _ _ (by unfold cS; omega)) (h _ _ (by unfold cS; omega)) (h _ _ (by unfold cS; omega)) (h _ _ (by unfold cS; omega)) c,
    RelT_c (fun o x y k => h o k (by unfold cS; omega)) (fun o x y k => h o k (by unfold cS; omega)) (h _ _ (by unfold cS; omega)) (h _ _ (by unfold cS; omega)) e,
    RelS_c (h _ _ (by unfold cS; omega)) (h _ _ (by unfold cS; omega)) (fun k => h _ _ (by unfold cS; omega)) (fun k => h _ _ (by unfold cS; omega)) (fun k => h _ _ (by unfold cS; omega)) f,
    RelL_c (fun o x y k hk => h o k (by unfold cS; omega)) (fun o x y k => h o k (by unfold cS; omega)) (h _ _ (by unfold cS; omega)) (h _ _ (by unfold cS; omega)) (by rw [h 164 18 (by unfold cS; omega)]; exact Int.le_refl _) u,
    RelF_k u (fun o j w => h o j (by unfold mS at w; unfold cS; omega)) (h _ _ (by unfold cS; omega)) (fun q hq => ⟨h _ _ (by unfold cS; omega), h _ _ (by unfold cS; omega)⟩) v⟩
theorem RelA_x (h : ∀ o j, cS o j → s'.1 o j = s.1 o j) (hC : Core s) (hA : RelA s.1) : RelA s'.1 := by
  have h60 := (Core_c7 hC).2.2
  exact RelA_k h60 (fun o j w => h o j (by unfold mS at w; unfold cS; omega)) (h _ _ (by unfold cS; omega)) (fun q hq => ⟨h _ _ (by unfold cS; omega), h _ _ (by unfold cS; omega), h _ _ (by unfold cS; omega)⟩) hA
theorem Rel_up (h : Rel n s) : Rel (n + 1) s := ⟨h.1, h.2.1, h.2.2.1, h.2.2.2.1, h.2.2.2.2.1, by have := h.2.2.2.2.2; omega⟩
/-- calls that leave all but texts and rules -/
theorem Rel_x (h : Rel n s) (hR : zRok s') (hc : ∀ o j, cS o j → s'.1 o j = s.1 o j) (hX : RelX s'.1) (hQ : RelQ s') (hN : s'.2.2.2 = s.2.2.2) : Rel (n + 1) s' :=
  ⟨Core_x hR hc h.1, hX, hQ, RelA_x hc h.1 h.2.2.2.1, by rw [hN]; exact h.2.2.2.2.1, by rw [hc 64 10 (by unfold cS; omega)]; have := h.2.2.2.2.2; omega⟩
theorem RelX_g {S : Nat → Nat → Prop} (hS : ∀ o j, S o j → gSc o j) (hE : zE S s s') (h : RelX s.1) : RelX s'.1 :=
  RelX_c (fun k => hE.2 _ _ (fun w => by have := hS _ _ w; unfold gSc at this; omega)) (fun k => hE.2 _ _ (fun w => by have := hS _ _ w; unfold gSc at this; omega)) (hE.2 _ _ (fun w => by have := hS _ _ w; unfold gSc at this; omega)) (hE.2 _ _ (fun w => by have := hS _ _ w; unfold gSc at this; omega)) h
theorem RelQ_g {S : Nat → Nat → Prop} (hR : zRok s) (hS : ∀ o j, S o j → gSc o j) (hE : zE S s s') (h : RelQ s) : RelQ s' :=
  RelQ_c hE (fun p k w => by have := hS _ _ w; unfold gSc at this; unfold rqS; have := hR.2; omega) h
/-- calls that leave scratch alone behind -/
theorem Rel_g {S : Nat → Nat → Prop} (h : Rel n s) (hS : ∀ o j, S o j → gSc o j) (hE : zE S s s') (hC : Core s') (hA : RelA s'.1) : Rel (n + 1) s' :=
  ⟨hC, RelX_g hS hE h.2.1, RelQ_g h.1.1 hS hE h.2.2.1, hA, by rw [hE.1]; exact h.2.2.2.2.1, by rw [hE.2 64 10 (fun w => by have := hS _ _ w; unfold gSc at this; omega)]; have := h.2.2.2.2.2; omega⟩
theorem RelA_g {S : Nat → Nat → Prop} (hS : ∀ o j, S o j → gSc o j) (hS2 : ∀ o j, S o j → ¬ (104 ≤ o ∧ o < 164 ∧ 11 ≤ j)) (hE : zE S s s') (hC : Core s) (hA : RelA s.1) : RelA s'.1 := by
  have h60 := (Core_c7 hC).2.2
  exact RelA_k h60 (eqM_g hS hE) (hE.2 _ _ (fun w => by have := hS _ _ w; unfold gSc at this; omega)) (fun q hq => ⟨hE.2 _ _ (fun w => hS2 _ _ w ⟨by omega, by omega, by omega⟩), hE.2 _ _ (fun w => hS2 _ _ w ⟨by omega, by omega, by omega⟩), hE.2 _ _ (fun w => hS2 _ _ w ⟨by omega, by omega, by omega⟩)⟩) hA
/-- calls whose scratch leaves tellings' rows too -/
theorem Rel_l {S : Nat → Nat → Prop} (h : Rel n s) (hS : ∀ o j, S o j → gSc o j) (hS2 : ∀ o j, S o j → ¬ (104 ≤ o ∧ o < 164)) (hE : zE S s s') : Rel (n + 1) s' := by
  have hC := h.1
  have hF := RelF_k hC.2.2.2.2.2.1 (eqM_g hS hE) (hE.2 _ _ (fun w => by have := hS _ _ w; unfold gSc at this; omega)) (fun q hq => ⟨hE.2 _ _ (fun w => hS2 _ _ w ⟨by omega, by omega⟩), hE.2 _ _ (fun w => hS2 _ _ w ⟨by omega, by omega⟩)⟩) hC.2.2.2.2.2.2
  exact Rel_g h hS hE (Core_k hE (fun o j w => hS o j w) hC hF) (RelA_g hS (fun o j w u => hS2 o j w ⟨u.1, u.2.1⟩) hE hC h.2.2.2.1)
end RX
