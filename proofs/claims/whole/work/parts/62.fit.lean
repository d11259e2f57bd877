/-! ===== the fitting things of a telling ===== -/
def fitN (I : zM2) (k : Nat) : Nat → Int32
  | 0 => 0
  | t + 1 => if (neF I t (183 + k) 1 3 4 && neF I t (183 + k) 2 5 6) = true then fitN I k t ||| (1 <<< (nI t &&& 31)) else fitN I k t
def fitF (I : zM2) (k : Nat) : Int32 := fitN I k (nT I)
theorem nrF_c {I I' : zM2} (h1 : I' 164 25 = I 164 25) (h2 : I' 164 26 = I 164 26) (a b c e : Int32) : nrF I' a b c e = nrF I a b c e := by unfold nrF; rw [h1, h2]
theorem neF_at {s s' : zS} (h : zE atS s s') {t o j1 j3 j4 : Nat} (ho : 183 ≤ o) (ho2 : o < 243) : neF s'.1 t o j1 j3 j4 = neF s.1 t o j1 j3 j4 := by
  have eo : ∀ j, s'.1 o j = s.1 o j := fun j => h.2 o j (by unfold atS; omega)
  have sa := sameAt h t
  unfold neF
  rw [eo, eo, eo, eo, shF_c sa (h.2 _ _ (by simp [atS])) (h.2 _ _ (by simp [atS])), wyF_c sa (h.2 _ _ (by simp [atS])) (h.2 _ _ (by simp [atS])), slF_c sa (h.2 _ _ (by simp [atS])) (h.2 _ _ (by simp [atS])), nrF_c (h.2 _ _ (by simp [atS])) (h.2 _ _ (by simp [atS]))]
theorem fitN_at {s s' : zS} (h : zE atS s s') {k : Nat} (hk : k < 60) : ∀ t, fitN s'.1 k t = fitN s.1 k t := by
  intro t
  induction t with
  | zero => rfl
  | succ t ih => unfold fitN; rw [ih, neF_at h (by omega) (by omega), neF_at h (by omega) (by omega)]
