/-! ===== things: the four calls that make them ===== -/
def nT (I : zM2) : Nat := (I 164 19).toNatClampNeg
def tOK (I : zM2) (t : Nat) : Prop :=
  I (92 + t) 0 = I 172 t ∧
  ((I 172 t = 0 ∧ I (92 + t) 12 = I 178 t ∧ I (92 + t) 13 = I 177 t ∧ I (92 + t) 14 = I 179 t ∧ bR 0 255 (I 178 t) = true ∧ bR 0 999 (I 177 t) = true ∧ bR (-9) 9 (I 179 t) = true)
  ∨ (¬ I 172 t = 0 ∧ I (92 + t) 3 = I 175 t ∧ I (92 + t) 4 = I 176 t ∧ I (92 + t) 5 = I 177 t ∧ bR 0 63 (I 175 t) = true ∧ bR 0 63 (I 176 t) = true ∧ bR 0 255 (I 177 t) = true ∧
    ((I 172 t = 3 ∧ I (92 + t) 1 = 0 ∧ I (92 + t) 2 = 239 ∧ I (92 + t) 10 = I 180 t ∧ I (92 + t) 11 = I 181 t ∧ bR 1 30 (I 180 t) = true ∧ I (92 + t) 6 = 0 ∧ I (92 + t) 7 = 0 ∧ I (92 + t) 8 = 1)
    ∨ (¬ I 172 t = 3 ∧ I (92 + t) 1 = I 173 t ∧ I (92 + t) 2 = I 174 t ∧ bR 0 239 (I 173 t) = true ∧ bR 0 239 (I 174 t) = true ∧ (I 173 t).toInt ≤ (I 174 t).toInt ∧
      ((I 172 t = 2 ∧ I (92 + t) 9 = I 178 t ∧ bR 0 20 (I 178 t) = true ∧ I (92 + t) 6 = 0 ∧ I (92 + t) 7 = 0 ∧ I (92 + t) 8 = 1)
      ∨ (¬ I 172 t = 2 ∧ I (92 + t) 9 = 0 ∧ I (92 + t) 6 = I 178 t ∧ I (92 + t) 7 = I 179 t ∧ bR (-20) 20 (I 178 t) = true ∧ bR (-20) 20 (I 179 t) = true ∧ ((I 172 t = 1 ∧ I (92 + t) 8 = 4) ∨ (I 172 t = 4 ∧ I (92 + t) 8 = 16) ∨ (I 172 t = 5 ∧ I (92 + t) 8 = 1))))))))
def tNew (I : zM2) (t : Nat) : Prop := I (92 + t) 6 = 0 ∧ I (92 + t) 7 = 0 ∧ I (92 + t) 8 = 1 ∧ I (92 + t) 9 = 0
def RelT (I : zM2) : Prop := RN I 164 19 12 ∧ I 64 5 = I 164 19 ∧ (∀ t, t < nT I → tOK I t) ∧ (∀ t, nT I ≤ t → t < 12 → tNew I t)
def thingS : Nat → Nat → Prop := fun o k => (92 ≤ o ∧ o < 104) ∨ (o = 64 ∧ (k = 5 ∨ k = 10)) ∨ (172 ≤ o ∧ o ≤ 181) ∨ (o = 164 ∧ k = 19)
theorem tOK_c {I I' : zM2} {t : Nat} (h1 : ∀ k, I' (92 + t) k = I (92 + t) k) (h2 : ∀ o, 172 ≤ o → o ≤ 181 → I' o t = I o t) (h : tOK I t) : tOK I' t := by
  unfold tOK at *
  rw [h1, h1, h1, h1, h1, h1, h1, h1, h1, h1, h1, h1, h1, h1, h1, h2 172 (by decide) (by decide), h2 173 (by decide) (by decide), h2 174 (by decide) (by decide), h2 175 (by decide) (by decide), h2 176 (by decide) (by decide), h2 177 (by decide) (by decide), h2 178 (by decide) (by decide), h2 179 (by decide) (by decide), h2 180 (by decide) (by decide), h2 181 (by decide) (by decide)]
  exact h
theorem RelT_c {I I' : zM2} (h1 : ∀ o, 92 ≤ o → o < 104 → ∀ k, I' o k = I o k) (h2 : ∀ o, 172 ≤ o → o ≤ 181 → ∀ k, I' o k = I o k) (h3 : I' 164 19 = I 164 19) (h4 : I' 64 5 = I 64 5) (h : RelT I) : RelT I' := by
  unfold RelT nT RN at *
  rw [h3, h4]
  refine ⟨h.1, h.2.1, fun t ht => ?_, fun t ht h12 => ?_⟩
  · have hh := h.2.2.1 t ht
    have h12 : t < 12 := by have := ti_tn h.1.1; have := h.1.2; omega
    exact tOK_c (fun k => h1 _ (by omega) (by omega) k) (fun o a b => h2 o a b t) hh
  · have := h.2.2.2 t ht h12
    unfold tNew at *
    rw [h1 _ (by omega) (by omega), h1 _ (by omega) (by omega), h1 _ (by omega) (by omega), h1 _ (by omega) (by omega)]
    exact this
theorem RelT_add {I I' : zM2} (hT : RelT I) (hlt : nT I < 12) (e1 : I' 164 19 = I 164 19 + 1) (e2 : I' 64 5 = I 164 19 + 1) (h1 : ∀ t, t < 12 → ¬ t = nT I → ∀ k, I' (92 + t) k = I (92 + t) k) (h2 : ∀ o, 172 ≤ o → o ≤ 181 → ∀ t, ¬ t = nT I → I' o t = I o t) (h : tOK I' (nT I)) : RelT I' ∧ nT I' = nT I + 1 := by
  obtain ⟨u1, u2, u3⟩ := RN_s hT.1 hlt (by decide)
  have en : nT I' = nT I + 1 := by unfold nT; rw [e1, u1]
  refine ⟨⟨?_, by rw [e1, e2], ?_, ?_⟩, en⟩
  · unfold RN; rw [e1]; have := hT.1.1; omega
  · intro t ht
    by_cases w : t = nT I
    · rw [w]; exact h
    · have t12 : t < nT I := by omega
      exact tOK_c (h1 t (by omega) w) (fun o a b => h2 o a b t w) (hT.2.2.1 t t12)
  · intro t ht h12
    have w : ¬ t = nT I := by omega
    have := hT.2.2.2 t (by omega) h12
    unfold tNew at *
    rw [h1 t h12 w, h1 t h12 w, h1 t h12 w, h1 t h12 w]
    exact this
theorem ob92 {n : Nat} (h : n < 12) : (¬ 64 = 92 + n) ∧ (¬ 92 + n = 64) ∧ (¬ 164 = 92 + n) ∧ (¬ 92 + n = 164) ∧ (¬ 172 = 92 + n) ∧ (¬ 92 + n = 172) ∧ (¬ 173 = 92 + n) ∧ (¬ 92 + n = 173) ∧ (¬ 174 = 92 + n) ∧ (¬ 92 + n = 174) ∧ (¬ 175 = 92 + n) ∧ (¬ 92 + n = 175) ∧ (¬ 176 = 92 + n) ∧ (¬ 92 + n = 176) ∧ (¬ 177 = 92 + n) ∧ (¬ 92 + n = 177) ∧ (¬ 178 = 92 + n) ∧ (¬ 92 + n = 178) ∧ (¬ 179 = 92 + n) ∧ (¬ 92 + n = 179) ∧ (¬ 180 = 92 + n) ∧ (¬ 92 + n = 180) ∧ (¬ 181 = 92 + n) ∧ (¬ 92 + n = 181) := by
  omega
theorem zr_T {a b c : Prop} (h : a) (h2 : b) : a ∧ b := ⟨h, h2⟩
/-- the class's new thing -/
def cT (s : zS) (k m p z : Int32) : zS := zI (zI (zI (zI (zI (zI (zI (zI s (92 + nT s.1) 0 k) (92 + nT s.1) 1 (m / 1000)) (92 + nT s.1) 2 (m % 1000)) (92 + nT s.1) 3 (p / 64)) (92 + nT s.1) 4 (p % 64)) (92 + nT s.1) 5 z) 64 5 (s.1 164 19 + 1)) 64 10 (s.1 64 10 + 1)
/-- the reference's -/
def mT (s : zS) (k m p z : Int32) : zS := zI (zI (zI (zI (zI (zI (zI s 172 (nT s.1) k) 173 (nT s.1) (m / 1000)) 174 (nT s.1) (m % 1000)) 175 (nT s.1) (p / 64)) 176 (nT s.1) (p % 64)) 177 (nT s.1) z) 164 19 (s.1 164 19 + 1)
section OT
variable {l : Launch} {g : zG} {d : Nat} {s : zS}
theorem c_newThing (hR : zRok s) {k m p z : Int32} {K : Nat → zS → Prop} (hT : RelT s.1) (hlt : nT s.1 < 12) (h : K (92 + nT s.1) (cT s k m p z)) : zc l g d M_X7_newThing [.ref 64, .int k, .int m, .int p, .int z] s (zKr K) := by
  refine t_X7_newThing hR ?_
  rw [hT.2.1]
  refine ⟨vin_i hT.1.1 ?_, ?_⟩
  · have := ti_tn hT.1.1; unfold nT at hlt; omega
  · have e : ∀ (a : zS), (zI a 64 5 (s.1 164 19 + 1)).1 64 10 = a.1 64 10 := fun a => zI_k (by decide)
    have hn : ¬ (64 : Nat) = 92 + nT s.1 := by omega
    exact h
theorem m_adds (hR : zRok s) {k m p z : Int32} {K : Int32 → zS → Prop} (hn : RN s.1 164 19 12) (hlt : nT s.1 < 12) (h : K (s.1 164 19) (mT s k m p z)) : zc l g d M_X8_adds [.ref 164, .int k, .int m, .int p, .int z] s (zKi K) := by
  refine t_X8_adds hR ?_
  have hv : vp_in (s.1 164 19) 12 := vin_i hn.1 (by have := ti_tn hn.1; unfold nT at hlt; omega)
  refine ⟨hv, hv, hv, hv, hv, hv, ?_⟩
  rw [i32_s1]
  exact h
end OT
