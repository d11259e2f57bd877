/-! ===== the class's isLike, both minutes ===== -/
section LI2
variable {l : Launch} {g : zG} {d : Nat} {s : zS} {t o : Nat}
/-- thing t is like what cells of the class's telling o say -/
def likeF (I : zM2) (t o : Nat) : Bool :=
  (shF I t (I o 0).toNatClampNeg (I o 1) && nrF I (wyF I t (I o 0).toNatClampNeg (I o 1)) (slF I t (I o 0).toNatClampNeg (I o 1)) (I o 3) (I o 4)) &&
  (shF I t (I o 0).toNatClampNeg (I o 2) && nrF I (wyF I t (I o 0).toNatClampNeg (I o 2)) (slF I t (I o 0).toNatClampNeg (I o 2)) (I o 5) (I o 6))
theorem c_isLike (hR : zRok s) {K : Bool → zS → Prop} (hH : RelH s.1) (hO : RelO s.1) (hS : RelS s.1) (ht : t < 12) (ho : tOK s.1 t) (hb : 104 ≤ o ∧ o < 164) (h0 : bR 0 ((s.1 164 18).toInt - 1) (s.1 o 0) = true) (h1 : bR 0 239 (s.1 o 1) = true) (h2 : bR 0 239 (s.1 o 2) = true)
    (h : ∀ s', zE s68 s s' → K (likeF s.1 t o) s') : zc l g (d + 5) M_X7_isLike [.ref 64, .ref o, .ref (92 + t)] s (zKz K) := by
  have hb2 : 92 ≤ 92 + t ∧ 92 + t < 104 := by omega
  obtain ⟨u1, hw⟩ := seN hS h0
  have sv := RelS_v hS u1
  refine t_X7_isLike hR hb hb2 ⟨hw, ?_⟩
  intro v2 e2
  subst e2
  unfold likeF at h
  have hob : ¬ o = 68 := by omega
  refine c_near1 (d := d) (i := (s.1 o 0).toNatClampNeg) (o := o) (ja := 3) (jb := 4) hR (K := fun b s7 => if b = true then zc l g (d + 4) M_X4_look [.ref 68, .ref (92 + t), .int (s.1 69 (s.1 o 0).toNatClampNeg), .int (s7.1 o 2)] s7 (zKz (fun b4 s3 => s3.2.2.1 = s7.2.2.1 ∧ (if b4 = true then (zc l g (d + 4) M_X7_isNear [.ref 64, .int (s3.1 o 5), .int (s3.1 o 6)] s3 (zKz (fun b6 s5 => s5.2.2.1 = s3.2.2.1 ∧ (if b6 = true then (zc l g (d + 4) M_X4_hidingHill [.ref 68] s5 (zKi (fun r8 s7 => s7.2.2.1 = s5.2.2.1 ∧ (if r8 = (-1 : Int32) then K true s7 else K false s7)))) else K false s5)))) else K false s3))) else K false s7) hH hO ht ho h1 sv.2.2.2.2.1 sv.2.2.2.2.2.1 hob ?_
  intro s' hE
  by_cases c : (shF s.1 t (s.1 o 0).toNatClampNeg (s.1 o 1) && nrF s.1 (wyF s.1 t (s.1 o 0).toNatClampNeg (s.1 o 1)) (slF s.1 t (s.1 o 0).toNatClampNeg (s.1 o 1)) (s.1 o 3) (s.1 o 4)) = true
  · rw [if_pos c]
    rw [c, Bool.true_and] at h
    have hO' : RelO s'.1 := by
      unfold RelO RN at *
      rw [z68 hE (by decide), z68 hE (by decide), z68 hE (by decide), z68 hE (by decide)]
      exact hO
    have sa := same68 hE t
    have e70 : s'.1 170 (s.1 o 0).toNatClampNeg = s.1 170 (s.1 o 0).toNatClampNeg := z68 hE (by decide)
    have e71 : s'.1 171 (s.1 o 0).toNatClampNeg = s.1 171 (s.1 o 0).toNatClampNeg := z68 hE (by decide)
    have eo : ∀ j, s'.1 o j = s.1 o j := fun j => z68 hE hob
    refine c_near1 (d := d) (i := (s.1 o 0).toNatClampNeg) (o := o) (ja := 5) (jb := 6) (zE_K hE hR) (RelH68 hE hH) hO' ht (tOK68 hE ho ht) (by rw [eo]; exact h2) (by rw [e70]; exact sv.2.2.2.2.1) (by rw [e71]; exact sv.2.2.2.2.2.1) hob ?_
    intro s2 hE2
    have := h s2 (zE_t hE hE2)
    unfold nrF at *
    rw [shF_c sa e70 e71, wyF_c sa e70 e71, slF_c sa e70 e71, eo, eo, eo, z68 hE (by decide), z68 hE (by decide)]
    exact this
  · rw [if_neg c]
    have := h s' hE
    rw [Bool.eq_false_iff.mpr c, Bool.false_and] at this
    exact this
end LI2
