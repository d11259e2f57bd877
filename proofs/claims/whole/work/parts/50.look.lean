/-! ===== one look ===== -/
/-- hills and thing t are the same in both -/
def sameT (I I' : zM2) (t : Nat) : Prop := (∀ o, 165 ≤ o → o ≤ 169 → ∀ k, I' o k = I o k) ∧ I' 164 17 = I 164 17 ∧ (∀ o, 172 ≤ o → o ≤ 181 → I' o t = I o t)
section ST
variable {I I' : zM2} {t : Nat}
theorem sT (h : sameT I I' t) : I' 172 t = I 172 t ∧ I' 173 t = I 173 t ∧ I' 174 t = I 174 t ∧ I' 175 t = I 175 t ∧ I' 176 t = I 176 t ∧ I' 177 t = I 177 t ∧ I' 178 t = I 178 t ∧ I' 179 t = I 179 t ∧ I' 180 t = I 180 t ∧ I' 181 t = I 181 t :=
  ⟨h.2.2 172 (by decide) (by decide), h.2.2 173 (by decide) (by decide), h.2.2 174 (by decide) (by decide), h.2.2 175 (by decide) (by decide), h.2.2 176 (by decide) (by decide), h.2.2 177 (by decide) (by decide), h.2.2 178 (by decide) (by decide), h.2.2 179 (by decide) (by decide), h.2.2 180 (by decide) (by decide), h.2.2 181 (by decide) (by decide)⟩
theorem pX_c (h : sameT I I' t) (m : Int32) : pX I' t m = pX I t m := by
  obtain ⟨a, b, c, e, f, u, v, w, -⟩ := sT h
  unfold pX dvF; rw [a, b, e, v]
theorem pY_c (h : sameT I I' t) (m : Int32) : pY I' t m = pY I t m := by
  obtain ⟨a, b, c, e, f, u, v, w, -⟩ := sT h
  unfold pY dvF; rw [a, b, f, w]
theorem pZ_c (h : sameT I I' t) (m : Int32) : pZ I' t m = pZ I t m := by
  obtain ⟨a, b, c, e, f, u, v, w, -⟩ := sT h
  unfold pZ; rw [a, b, e, f, u, v, mG_c h.1 h.2.1]
theorem pIs_c (h : sameT I I' t) (m : Int32) : pIs I' t m = pIs I t m := by
  obtain ⟨a, b, c, e, f, u, v, w, -⟩ := sT h
  unfold pIs; rw [a, b, c, e, f, u, v, mG_c h.1 h.2.1]
end ST
def litF (I : zM2) (t : Nat) (m : Int32) : Bool := decide (I 172 t = 0) || (pIs I t m && (!decide (I 172 t = 3) || decide (m % I 180 t = I 181 t)))
def wyF (I : zM2) (t i : Nat) (m : Int32) : Int32 := if I 172 t = 0 then zfm (I 178 t + zfd (I 179 t * m) 8) 256 else wayF (pX I t m - I 170 i) (pY I t m - I 171 i)
def slF (I : zM2) (t i : Nat) (m : Int32) : Int32 := if I 172 t = 0 then I 177 t else slopeF (zabs (pX I t m - I 170 i) + zabs (pY I t m - I 171 i)) (pZ I t m - (mG I (I 170 i) (I 171 i) + 1))
def s68 : Nat → Nat → Prop := fun o _ => o = 68
theorem z68 {s s' : zS} (h : zE s68 s s') {o k : Nat} (ho : ¬ o = 68) : s'.1 o k = s.1 o k := h.2 o k ho
theorem same68 {s s' : zS} (h : zE s68 s s') (t : Nat) : sameT s.1 s'.1 t :=
  ⟨fun o a b k => z68 h (by omega), z68 h (by decide), fun o a b => z68 h (by omega)⟩
theorem RelH68 {s s' : zS} (h : zE s68 s s') (hH : RelH s.1) : RelH s'.1 :=
  RelH_c (fun o a b k => z68 h (by omega)) (z68 h (by decide)) (z68 h (by decide)) (z68 h (by decide)) (fun k => z68 h (by decide)) (fun k => z68 h (by decide)) hH
theorem tOK68 {s s' : zS} {t : Nat} (h : zE s68 s s') (ho : tOK s.1 t) (ht : t < 12) : tOK s'.1 t :=
  tOK_c (fun k => z68 h (by omega)) (fun o a b => z68 h (by omega)) ho
section CL
variable {l : Launch} {g : zG} {d : Nat} {s : zS} {m : Int32} {t : Nat}
theorem c_isLit (hR : zRok s) {K : Bool → zS → Prop} (ht : t < 12) (ho : tOK s.1 t) (h0 : ¬ s.1 172 t = 0) (h : K (!decide (s.1 172 t = 3) || decide (m % s.1 180 t = s.1 181 t)) s) : zc l g d M_X6_isLit [.ref (92 + t), .int m] s (zKz K) := by
  have hb : 92 ≤ 92 + t ∧ 92 + t < 104 := by omega
  refine t_X6_isLit hR hb ?_
  rw [ho.1]
  have o2 := (ho.2.resolve_left (fun w => h0 w.1)).2
  rcases o2.2.2.2.2.2.2 with w | w
  · have b := bR_t.mp w.2.2.2.2.2.1
    rw [if_pos w.1, w.2.2.2.1, w.2.2.2.2.1, if_neg (by rw [ti_le, til.1]; omega)]
    rw [decide_eq_true w.1, Bool.not_true, Bool.false_or] at h
    refine ⟨by rw [ti_eq, til.1]; omega, ?_⟩
    by_cases q : m % s.1 180 t = s.1 181 t
    · rw [if_pos q]; rw [decide_eq_true q] at h; exact h
    · rw [if_neg q]; rw [decide_eq_false q] at h; exact h
  · rw [if_neg w.1]
    rw [decide_eq_false w.1, Bool.not_false, Bool.true_or] at h
    exact h
end CL
