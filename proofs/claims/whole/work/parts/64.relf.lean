/-! ===== what tellings keep of their fitting ===== -/
/-- the reference's own cells (not its scratch) -/
def mS (o k : Nat) : Prop := (165 ≤ o ∧ o < 243) ∨ (o = 164 ∧ (k = 17 ∨ k = 18 ∨ k = 19 ∨ k = 24 ∨ k = 25 ∨ k = 26))
def eqM (I I' : zM2) : Prop := ∀ o k, mS o k → I' o k = I o k
theorem eqM_same {I I' : zM2} (h : eqM I I') (t : Nat) : sameT I I' t :=
  ⟨fun o a b k => h o k (by unfold mS; omega), h 164 17 (by simp [mS]), fun o a b => h o t (by unfold mS; omega)⟩
theorem neF_c {I I' : zM2} (h : eqM I I') {t o j1 j3 j4 : Nat} (ho : 183 ≤ o) (ho2 : o < 243) : neF I' t o j1 j3 j4 = neF I t o j1 j3 j4 := by
  have eo : ∀ j, I' o j = I o j := fun j => h o j (by unfold mS; omega)
  have e70 : ∀ i, I' 170 i = I 170 i := fun i => h 170 i (by simp [mS])
  have e71 : ∀ i, I' 171 i = I 171 i := fun i => h 171 i (by simp [mS])
  have sa := eqM_same h t
  unfold neF
  rw [eo, eo, eo, eo, shF_c sa (e70 _) (e71 _), wyF_c sa (e70 _) (e71 _), slF_c sa (e70 _) (e71 _), nrF_c (h 164 25 (by simp [mS])) (h 164 26 (by simp [mS]))]
theorem fitN_c {I I' : zM2} (h : eqM I I') {k : Nat} (hk : k < 60) : ∀ t, fitN I' k t = fitN I k t := by
  intro t
  induction t with
  | zero => rfl
  | succ t ih => unfold fitN; rw [ih, neF_c h (by omega) (by omega), neF_c h (by omega) (by omega)]
theorem fitF_c {I I' : zM2} (h : eqM I I') {k : Nat} (hk : k < 60) : fitF I' k = fitF I k := by
  unfold fitF nT
  rw [h 164 19 (by simp [mS]), fitN_c h hk]
theorem likeF_ne {I : zM2} {k t : Nat} (hl : lOK I k) : likeF I t (104 + k) = (neF I t (183 + k) 1 3 4 && neF I t (183 + k) 2 5 6) := by
  unfold likeF neF
  rw [hl.1 0 (by decide), hl.1 1 (by decide), hl.1 2 (by decide), hl.1 3 (by decide), hl.1 4 (by decide), hl.1 5 (by decide), hl.1 6 (by decide)]
def RelF (I : zM2) : Prop := 1 ≤ (I 64 10).toInt ∧ ∀ k, k < nK I → 0 ≤ (I (104 + k) 10).toInt ∧ (I (104 + k) 10).toInt ≤ (I 64 10).toInt ∧ (I (104 + k) 10 = I 64 10 → I (104 + k) 9 = fitF I k)
