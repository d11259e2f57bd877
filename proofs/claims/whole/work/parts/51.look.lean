/-! ===== one look: the class's cells behind it ===== -/
section LK
variable {l : Launch} {g : zG} {d : Nat} {s : zS} {m pl : Int32} {t i : Nat}
theorem c_look (hR : zRok s) {K : Bool → zS → Prop} (hH : RelH s.1) (ht : t < 12) (ho : tOK s.1 t) (hm : bR 0 239 m = true) (hp1 : pl / 64 = s.1 170 i) (hp2 : pl % 64 = s.1 171 i)
    (hf : litF s.1 t m = false → ∀ s', zE s68 s s' → K false s')
    (hl : litF s.1 t m = true → ∀ s', zE s68 s s' → s'.1 68 1 = wyF s.1 t i m → s'.1 68 2 = slF s.1 t i m → (s.1 172 t = 0 → s'.1 68 3 = 1) →
      (¬ s.1 172 t = 0 → s'.1 68 3 = 0 ∧ s'.1 68 4 = s.1 170 i ∧ s'.1 68 5 = s.1 171 i ∧ s'.1 68 6 = mG s.1 (s.1 170 i) (s.1 171 i) + 1 ∧ s'.1 68 7 = pX s.1 t m - s.1 170 i ∧ s'.1 68 8 = pY s.1 t m - s.1 171 i ∧ s'.1 68 9 = pZ s.1 t m - (mG s.1 (s.1 170 i) (s.1 171 i) + 1)) → K true s') :
    zc l g (d + 3) M_X4_look [.ref 68, .ref (92 + t), .int pl, .int m] s (zKz K) := by
  have hb : 92 ≤ 92 + t ∧ 92 + t < 104 := by omega
  refine t_X4_look hR hb ?_
  rw [ho.1, hp1, hp2]
  by_cases h0 : s.1 172 t = 0
  · rw [if_pos h0]
    have o1 := ho.2.resolve_right (fun w => w.1 h0)
    have eL : litF s.1 t m = true := by unfold litF; rw [decide_eq_true h0, Bool.true_or]
    refine hl eL _ (zE_i (zE_i (zE_i0 (by simp [s68])) (by simp [s68])) (by simp [s68])) ?_ ?_ (fun _ => ?_) (fun w => absurd h0 w)
    · rw [zI_k (by decide), zI_eq]
      unfold wyF
      rw [if_pos h0, o1.2.1, o1.2.2.2.1]
    · rw [zI_eq]
      unfold slF
      rw [if_pos h0, o1.2.2.1]
    · rw [zI_k (by decide), zI_k (by decide), zI_eq]
  rw [if_neg h0]
  have eL : litF s.1 t m = (pIs s.1 t m && (!decide (s.1 172 t = 3) || decide (m % s.1 180 t = s.1 181 t))) := by unfold litF; rw [decide_eq_false h0, Bool.false_or]
  have z0 : zE s68 s (zI s 68 3 0) := zE_i0 (by simp [s68])
  refine c_isThere (zE_K z0 hR) (RelH68 z0 hH) ht (tOK68 z0 ho ht) hm ⟨rfl, ?_⟩
  rw [pIs_c (same68 z0 t), show (zI s 68 3 0).1 172 t = s.1 172 t from rfl, decide_eq_false h0, Bool.not_false, Bool.true_and]
  by_cases kI : pIs s.1 t m = true
  rotate_left
  · rw [if_neg kI]
    exact hf (by rw [eL, Bool.eq_false_iff.mpr kI]; rfl) _ z0
  rw [if_pos kI]
  rw [kI, Bool.true_and] at eL
  refine c_isLit (zE_K z0 hR) ht (tOK68 z0 ho ht) (by rw [show (zI s 68 3 0).1 172 t = s.1 172 t from rfl]; exact h0) ⟨rfl, ?_⟩
  rw [show (zI s 68 3 0).1 172 t = s.1 172 t from rfl, show (zI s 68 3 0).1 180 t = s.1 180 t from rfl, show (zI s 68 3 0).1 181 t = s.1 181 t from rfl, ← eL]
  by_cases kL : litF s.1 t m = true
  rotate_left
  · rw [if_neg kL]
    exact hf (Bool.eq_false_iff.mpr kL) _ z0
  rw [if_pos kL]
  generalize hA : zI (zI (zI s 68 3 0) 68 4 (s.1 170 i)) 68 5 (s.1 171 i) = sA
  have zA : zE s68 s sA := by rw [← hA]; exact zE_i (zE_i z0 (by simp [s68])) (by simp [s68])
  refine c_groundAt (zE_K zA hR) (RelH68 zA hH) ⟨by rw [← hA]; rfl, ?_⟩
  rw [mG_c (same68 zA t).1 (same68 zA t).2.1]
  generalize hB : zI sA 68 6 (mG s.1 (s.1 170 i) (s.1 171 i) + 1) = sB
  have zB : zE s68 s sB := by rw [← hB]; exact zE_i zA (by simp [s68])
  have k0 : ∀ {s'}, zE s68 s s' → ¬ s'.1 172 t = 0 := fun z => by rw [z68 z (by decide)]; exact h0
  refine c_xIn (zE_K zB hR) ht (tOK68 zB ho ht) (k0 zB) ⟨by rw [← hB]; rfl, ?_⟩
  rw [pX_c (same68 zB t)]
  have b4 : sB.1 68 4 = s.1 170 i := by rw [← hB, zI_k (by decide), ← hA, zI_k (by decide), zI_eq]
  rw [b4]
  generalize hC : zI sB 68 7 (pX s.1 t m - s.1 170 i) = sC
  have zC : zE s68 s sC := by rw [← hC]; exact zE_i zB (by simp [s68])
  refine c_yIn (zE_K zC hR) ht (tOK68 zC ho ht) (k0 zC) ⟨by rw [← hC]; rfl, ?_⟩
  rw [pY_c (same68 zC t)]
  have b5 : sC.1 68 5 = s.1 171 i := by rw [← hC, zI_k (by decide), ← hB, zI_k (by decide), ← hA, zI_eq]
  rw [b5]
  generalize hD : zI sC 68 8 (pY s.1 t m - s.1 171 i) = sD
  have zD : zE s68 s sD := by rw [← hD]; exact zE_i zC (by simp [s68])
  refine c_zIn (zE_K zD hR) (RelH68 zD hH) ht (tOK68 zD ho ht) (k0 zD) ⟨by rw [← hD]; rfl, ?_⟩
  rw [pZ_c (same68 zD t)]
  have b6 : sD.1 68 6 = mG s.1 (s.1 170 i) (s.1 171 i) + 1 := by rw [← hD, zI_k (by decide), ← hC, zI_k (by decide), ← hB, zI_eq]
  have b7 : sD.1 68 7 = pX s.1 t m - s.1 170 i := by rw [← hD, zI_k (by decide), ← hC, zI_eq]
  have b8 : sD.1 68 8 = pY s.1 t m - s.1 171 i := by rw [← hD, zI_eq]
  have b4D : sD.1 68 4 = s.1 170 i := by rw [← hD, zI_k (by decide), ← hC, zI_k (by decide), b4]
  have b5D : sD.1 68 5 = s.1 171 i := by rw [← hD, zI_k (by decide), b5]
  have b3D : sD.1 68 3 = 0 := by rw [← hD, zI_k (by decide), ← hC, zI_k (by decide), ← hB, zI_k (by decide), ← hA, zI_k (by decide), zI_k (by decide), zI_eq]
  rw [b6, b7, b8]
  generalize hE : zI sD 68 9 (pZ s.1 t m - (mG s.1 (s.1 170 i) (s.1 171 i) + 1)) = sE
  have zE5 : zE s68 s sE := by rw [← hE]; exact zE_i zD (by simp [s68])
  refine c_wayOf (zE_K zE5 hR) ⟨by rw [← hE]; rfl, ?_⟩
  have b7E : sE.1 68 7 = pX s.1 t m - s.1 170 i := by rw [← hE, zI_k (by decide), b7]
  have b8E : sE.1 68 8 = pY s.1 t m - s.1 171 i := by rw [← hE, zI_k (by decide), b8]
  have b9E : sE.1 68 9 = pZ s.1 t m - (mG s.1 (s.1 170 i) (s.1 171 i) + 1) := by rw [← hE, zI_eq]
  rw [b7E, b8E, b9E]
  generalize hF : zI sE 68 1 _ = sF
  have zF : zE s68 s sF := by rw [← hF]; exact zE_i zE5 (by simp [s68])
  refine c_slopeOf (zE_K zF hR) ⟨by rw [← hF]; rfl, ?_⟩
  refine hl kL _ (zE_i zF (by simp [s68])) ?_ ?_ (fun w => absurd w h0) (fun _ => ?_)
  · rw [zI_k (by decide), ← hF, zI_eq]
    unfold wyF
    rw [if_neg h0]
  · rw [zI_eq]
    unfold slF
    rw [if_neg h0]
  · refine ⟨?_, ?_, ?_, ?_, ?_, ?_, ?_⟩
    · rw [zI_k (by decide), ← hF, zI_k (by decide), ← hE, zI_k (by decide), b3D]
    · rw [zI_k (by decide), ← hF, zI_k (by decide), ← hE, zI_k (by decide), b4D]
    · rw [zI_k (by decide), ← hF, zI_k (by decide), ← hE, zI_k (by decide), b5D]
    · rw [zI_k (by decide), ← hF, zI_k (by decide), ← hE, zI_k (by decide), b6]
    · rw [zI_k (by decide), ← hF, zI_k (by decide), b7E]
    · rw [zI_k (by decide), ← hF, zI_k (by decide), b8E]
    · rw [zI_k (by decide), ← hF, zI_k (by decide), b9E]
end LK
