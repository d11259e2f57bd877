/-! ===== the state behind a new thing ===== -/
theorem bSpan_v {m : Int32} (h : bSpan m = true) : bR 0 239 (m / 1000) = true ∧ bR 0 239 (m % 1000) = true ∧ (m / 1000).toInt ≤ (m % 1000).toInt := by
  unfold bSpan at h
  simp only [Bool.and_eq_true, decide_eq_true_eq] at h
  exact ⟨h.1.1.2, h.1.2, h.2⟩
theorem bSpeed_v {m : Int32} (h : bSpeed m = true) : bR (-20) 20 (m / 100 - 20) = true ∧ bR (-20) 20 (m % 100 - 20) = true := by
  unfold bSpeed at h
  simp only [Bool.and_eq_true] at h
  have h1 := bR_t.mp h.1.2
  have h2 := bR_t.mp h.2
  have e : (20 : Int32).toInt = 20 := rfl
  constructor
  · rw [bR_t, ti_sub (by omega) (by omega), e]; omega
  · rw [bR_t, ti_sub (by omega) (by omega), e]; omega
theorem bPl_v {p : Int32} (h : bR 0 4095 p = true) : bR 0 63 (p / 64) = true ∧ bR 0 63 (p % 64) = true := by
  have := pl_64 h
  exact ⟨bR_t.mpr ⟨this.1, this.2.1⟩, bR_t.mpr ⟨this.2.2.1, this.2.2.2.1⟩⟩
theorem bR_255 {z : Int32} (h : bR 0 60 z = true) : bR 0 255 z = true := by rw [bR_t] at *; omega
def cF_star (s : zS) (p q r : Int32) : zS := zI (zI (zI (cT s 0 239 0 0) (92 + nT s.1) 12 p) (92 + nT s.1) 13 q) (92 + nT s.1) 14 r
def mF_star (s : zS) (p q r : Int32) : zS := zI (zI (cF_star s p q r) 178 (nT s.1) p) 179 (nT s.1) r
def F_star (s : zS) (p q r : Int32) : zS := mT (mF_star s p q r) 0 0 0 q
theorem F_star_n {s : zS} {p q r : Int32} (hlt : nT s.1 < 12) : nT (mF_star s p q r).1 = nT s.1 ∧ (mF_star s p q r).1 164 19 = s.1 164 19 ∧ (cF_star s p q r).1 164 19 = s.1 164 19 ∧ (cF_star s p q r).1 64 5 = s.1 164 19 + 1 ∧ zE thingS s (mF_star s p q r) ∧ zE thingS s (cF_star s p q r) := by
  have hob := ob92 hlt
  have hE : zE thingS s (cF_star s p q r) := by
    unfold cF_star cT
    repeat' apply zE_i
    exact zE_r
    all_goals (unfold thingS; omega)
  refine ⟨by simp [nT, mF_star, cF_star, cT, zI_1, hob], by simp [mF_star, cF_star, cT, zI_1, hob], by simp [cF_star, cT, zI_1, hob], by simp [cF_star, cT, zI_1, hob], ?_, hE⟩
  unfold mF_star
  refine zE_i (zE_i (hE) ?_) ?_ <;> (unfold thingS; omega)
theorem F_star_ok {s : zS} {p q r : Int32} (hT : RelT s.1) (hlt : nT s.1 < 12) (h1 : bR 0 255 p = true) (h2 : bR 0 999 q = true) (h3 : bR (-9) 9 r = true) : zE thingS s (F_star s p q r) ∧ RelT (F_star s p q r).1 ∧ nT (F_star s p q r).1 = nT s.1 + 1 ∧ (F_star s p q r).1 64 10 = s.1 64 10 + 1 := by
  have hob := ob92 hlt
  have hn := hT.2.2.2 (nT s.1) (Nat.le_refl _) hlt
  obtain ⟨en, e0, -, -, hE0, -⟩ := F_star_n (s := s) (p := p) (q := q) (r := r) hlt
  have hE : zE thingS s (F_star s p q r) := by
    unfold F_star mT
    rw [en]
    refine zE_i (zE_i (zE_i (zE_i (zE_i (zE_i (zE_i (hE0) ?_) ?_) ?_) ?_) ?_) ?_) ?_ <;> (unfold thingS; omega)
  refine ⟨hE, ?_⟩
  have e1 : (F_star s p q r).1 164 19 = s.1 164 19 + 1 := by unfold F_star mT; rw [zI_eq, e0]
  have e2 : (F_star s p q r).1 64 5 = s.1 164 19 + 1 := by
    simp [F_star, mT, mF_star, cF_star, cT, zI_1, hob]
  have e3 : (F_star s p q r).1 64 10 = s.1 64 10 + 1 := by
    simp [F_star, mT, mF_star, cF_star, cT, zI_1, hob]
  obtain ⟨a, b⟩ := RelT_add (I' := (F_star s p q r).1) hT hlt e1 e2 (by
    intro t ht hne k
    have hob2 := ob92 ht
    simp [F_star, mT, mF_star, cF_star, cT, zI_1, hob, hob2, hne]) (by
    intro o ho1 ho2 t hne
    have h1 : ¬ o = 92 + nT s.1 := by omega
    have h2 : ¬ o = 64 := by omega
    have h3 : ¬ o = 164 := by omega
    unfold F_star mT
    rw [en]
    simp [mF_star, cF_star, cT, zI_1, h1, h2, h3, hne]) (by
    unfold tNew at hn
    unfold tOK
    unfold F_star mT
    rw [en]
    simp [-Int32.toInt_div, -Int32.toInt_mod, mF_star, cF_star, cT, zI_1, hob, hn]
    exact ⟨h1, h2, h3⟩)
  exact ⟨a, b, e3⟩
def cF_flies (s : zS) (k m p z v w : Int32) : zS := zI (zI (zI (cT s k m p z) (92 + nT s.1) 6 (v / 100 - 20)) (92 + nT s.1) 7 (v % 100 - 20)) (92 + nT s.1) 8 w
def mF_flies (s : zS) (k m p z v w : Int32) : zS := zI (zI (cF_flies s k m p z v w) 178 (nT s.1) (v / 100 - 20)) 179 (nT s.1) (v % 100 - 20)
def F_flies (s : zS) (k m p z v w : Int32) : zS := mT (mF_flies s k m p z v w) k m p z
theorem F_flies_n {s : zS} {k m p z v w : Int32} (hlt : nT s.1 < 12) : nT (mF_flies s k m p z v w).1 = nT s.1 ∧ (mF_flies s k m p z v w).1 164 19 = s.1 164 19 ∧ (cF_flies s k m p z v w).1 164 19 = s.1 164 19 ∧ (cF_flies s k m p z v w).1 64 5 = s.1 164 19 + 1 ∧ zE thingS s (mF_flies s k m p z v w) ∧ zE thingS s (cF_flies s k m p z v w) := by
  have hob := ob92 hlt
  have hE : zE thingS s (cF_flies s k m p z v w) := by
    unfold cF_flies cT
    repeat' apply zE_i
    exact zE_r
    all_goals (unfold thingS; omega)
  refine ⟨by simp [nT, mF_flies, cF_flies, cT, zI_1, hob], by simp [mF_flies, cF_flies, cT, zI_1, hob], by simp [cF_flies, cT, zI_1, hob], by simp [cF_flies, cT, zI_1, hob], ?_, hE⟩
  unfold mF_flies
  refine zE_i (zE_i (hE) ?_) ?_ <;> (unfold thingS; omega)
theorem F_flies_ok {s : zS} {k m p z v w : Int32} (hT : RelT s.1) (hlt : nT s.1 < 12) (h0 : (k = 1 ∧ w = 4) ∨ (k = 4 ∧ w = 16) ∨ (k = 5 ∧ w = 1)) (h1 : bSpan m = true) (h2 : bR 0 4095 p = true) (h3 : bR 0 255 z = true) (h4 : bSpeed v = true) : zE thingS s (F_flies s k m p z v w) ∧ RelT (F_flies s k m p z v w).1 ∧ nT (F_flies s k m p z v w).1 = nT s.1 + 1 ∧ (F_flies s k m p z v w).1 64 10 = s.1 64 10 + 1 := by
  have hob := ob92 hlt
  have hn := hT.2.2.2 (nT s.1) (Nat.le_refl _) hlt
  obtain ⟨en, e0, -, -, hE0, -⟩ := F_flies_n (s := s) (k := k) (m := m) (p := p) (z := z) (v := v) (w := w) hlt
  have hE : zE thingS s (F_flies s k m p z v w) := by
    unfold F_flies mT
    rw [en]
    refine zE_i (zE_i (zE_i (zE_i (zE_i (zE_i (zE_i (hE0) ?_) ?_) ?_) ?_) ?_) ?_) ?_ <;> (unfold thingS; omega)
  refine ⟨hE, ?_⟩
  have e1 : (F_flies s k m p z v w).1 164 19 = s.1 164 19 + 1 := by unfold F_flies mT; rw [zI_eq, e0]
  have e2 : (F_flies s k m p z v w).1 64 5 = s.1 164 19 + 1 := by
    simp [F_flies, mT, mF_flies, cF_flies, cT, zI_1, hob]
  have e3 : (F_flies s k m p z v w).1 64 10 = s.1 64 10 + 1 := by
    simp [F_flies, mT, mF_flies, cF_flies, cT, zI_1, hob]
  obtain ⟨a, b⟩ := RelT_add (I' := (F_flies s k m p z v w).1) hT hlt e1 e2 (by
    intro t ht hne k
    have hob2 := ob92 ht
    simp [F_flies, mT, mF_flies, cF_flies, cT, zI_1, hob, hob2, hne]) (by
    intro o ho1 ho2 t hne
    have h1 : ¬ o = 92 + nT s.1 := by omega
    have h2 : ¬ o = 64 := by omega
    have h3 : ¬ o = 164 := by omega
    unfold F_flies mT
    rw [en]
    simp [mF_flies, cF_flies, cT, zI_1, h1, h2, h3, hne]) (by
    unfold tNew at hn
    unfold tOK
    unfold F_flies mT
    rw [en]
    have m1 := bSpan_v h1; have p1 := bPl_v h2; have v1 := bSpeed_v h4
    rcases h0 with ⟨rfl, rfl⟩ | ⟨rfl, rfl⟩ | ⟨rfl, rfl⟩ <;> simp [-Int32.toInt_div, -Int32.toInt_mod, mF_flies, cF_flies, cT, zI_1, hob, hn, m1, p1, v1, h3])
  exact ⟨a, b, e3⟩
def cF_flare (s : zS) (m p z v : Int32) : zS := zI (cT s 2 m p z) (92 + nT s.1) 9 v
def mF_flare (s : zS) (m p z v : Int32) : zS := zI (cF_flare s m p z v) 178 (nT s.1) v
def F_flare (s : zS) (m p z v : Int32) : zS := mT (mF_flare s m p z v) 2 m p z
theorem F_flare_n {s : zS} {m p z v : Int32} (hlt : nT s.1 < 12) : nT (mF_flare s m p z v).1 = nT s.1 ∧ (mF_flare s m p z v).1 164 19 = s.1 164 19 ∧ (cF_flare s m p z v).1 164 19 = s.1 164 19 ∧ (cF_flare s m p z v).1 64 5 = s.1 164 19 + 1 ∧ zE thingS s (mF_flare s m p z v) ∧ zE thingS s (cF_flare s m p z v) := by
  have hob := ob92 hlt
  have hE : zE thingS s (cF_flare s m p z v) := by
    unfold cF_flare cT
    repeat' apply zE_i
    exact zE_r
    all_goals (unfold thingS; omega)
  refine ⟨by simp [nT, mF_flare, cF_flare, cT, zI_1, hob], by simp [mF_flare, cF_flare, cT, zI_1, hob], by simp [cF_flare, cT, zI_1, hob], by simp [cF_flare, cT, zI_1, hob], ?_, hE⟩
  unfold mF_flare
  refine zE_i (hE) ?_ <;> (unfold thingS; omega)
theorem F_flare_ok {s : zS} {m p z v : Int32} (hT : RelT s.1) (hlt : nT s.1 < 12) (h1 : bSpan m = true) (h2 : bR 0 4095 p = true) (h3 : bR 0 255 z = true) (h4 : bR 0 20 v = true) : zE thingS s (F_flare s m p z v) ∧ RelT (F_flare s m p z v).1 ∧ nT (F_flare s m p z v).1 = nT s.1 + 1 ∧ (F_flare s m p z v).1 64 10 = s.1 64 10 + 1 := by
  have hob := ob92 hlt
  have hn := hT.2.2.2 (nT s.1) (Nat.le_refl _) hlt
  obtain ⟨en, e0, -, -, hE0, -⟩ := F_flare_n (s := s) (m := m) (p := p) (z := z) (v := v) hlt
  have hE : zE thingS s (F_flare s m p z v) := by
    unfold F_flare mT
    rw [en]
    refine zE_i (zE_i (zE_i (zE_i (zE_i (zE_i (zE_i (hE0) ?_) ?_) ?_) ?_) ?_) ?_) ?_ <;> (unfold thingS; omega)
  refine ⟨hE, ?_⟩
  have e1 : (F_flare s m p z v).1 164 19 = s.1 164 19 + 1 := by unfold F_flare mT; rw [zI_eq, e0]
  have e2 : (F_flare s m p z v).1 64 5 = s.1 164 19 + 1 := by
    simp [F_flare, mT, mF_flare, cF_flare, cT, zI_1, hob]
  have e3 : (F_flare s m p z v).1 64 10 = s.1 64 10 + 1 := by
    simp [F_flare, mT, mF_flare, cF_flare, cT, zI_1, hob]
  obtain ⟨a, b⟩ := RelT_add (I' := (F_flare s m p z v).1) hT hlt e1 e2 (by
    intro t ht hne k
    have hob2 := ob92 ht
    simp [F_flare, mT, mF_flare, cF_flare, cT, zI_1, hob, hob2, hne]) (by
    intro o ho1 ho2 t hne
    have h1 : ¬ o = 92 + nT s.1 := by omega
    have h2 : ¬ o = 64 := by omega
    have h3 : ¬ o = 164 := by omega
    unfold F_flare mT
    rw [en]
    simp [mF_flare, cF_flare, cT, zI_1, h1, h2, h3, hne]) (by
    unfold tNew at hn
    unfold tOK
    unfold F_flare mT
    rw [en]
    have m1 := bSpan_v h1; have p1 := bPl_v h2
    simp [-Int32.toInt_div, -Int32.toInt_mod, mF_flare, cF_flare, cT, zI_1, hob, hn, m1, p1, h3, h4])
  exact ⟨a, b, e3⟩
def cF_lamp (s : zS) (p z u v : Int32) : zS := zI (zI (cT s 3 239 p z) (92 + nT s.1) 10 u) (92 + nT s.1) 11 v
def mF_lamp (s : zS) (p z u v : Int32) : zS := zI (zI (cF_lamp s p z u v) 180 (nT s.1) u) 181 (nT s.1) v
def F_lamp (s : zS) (p z u v : Int32) : zS := mT (mF_lamp s p z u v) 3 0 p z
theorem F_lamp_n {s : zS} {p z u v : Int32} (hlt : nT s.1 < 12) : nT (mF_lamp s p z u v).1 = nT s.1 ∧ (mF_lamp s p z u v).1 164 19 = s.1 164 19 ∧ (cF_lamp s p z u v).1 164 19 = s.1 164 19 ∧ (cF_lamp s p z u v).1 64 5 = s.1 164 19 + 1 ∧ zE thingS s (mF_lamp s p z u v) ∧ zE thingS s (cF_lamp s p z u v) := by
  have hob := ob92 hlt
  have hE : zE thingS s (cF_lamp s p z u v) := by
    unfold cF_lamp cT
    repeat' apply zE_i
    exact zE_r
    all_goals (unfold thingS; omega)
  refine ⟨by simp [nT, mF_lamp, cF_lamp, cT, zI_1, hob], by simp [mF_lamp, cF_lamp, cT, zI_1, hob], by simp [cF_lamp, cT, zI_1, hob], by simp [cF_lamp, cT, zI_1, hob], ?_, hE⟩
  unfold mF_lamp
  refine zE_i (zE_i (hE) ?_) ?_ <;> (unfold thingS; omega)
theorem F_lamp_ok {s : zS} {p z u v : Int32} (hT : RelT s.1) (hlt : nT s.1 < 12) (h1 : bR 0 4095 p = true) (h2 : bR 0 60 z = true) (h3 : bR 1 30 u = true) : zE thingS s (F_lamp s p z u v) ∧ RelT (F_lamp s p z u v).1 ∧ nT (F_lamp s p z u v).1 = nT s.1 + 1 ∧ (F_lamp s p z u v).1 64 10 = s.1 64 10 + 1 := by
  have hob := ob92 hlt
  have hn := hT.2.2.2 (nT s.1) (Nat.le_refl _) hlt
  obtain ⟨en, e0, -, -, hE0, -⟩ := F_lamp_n (s := s) (p := p) (z := z) (u := u) (v := v) hlt
  have hE : zE thingS s (F_lamp s p z u v) := by
    unfold F_lamp mT
    rw [en]
    refine zE_i (zE_i (zE_i (zE_i (zE_i (zE_i (zE_i (hE0) ?_) ?_) ?_) ?_) ?_) ?_) ?_ <;> (unfold thingS; omega)
  refine ⟨hE, ?_⟩
  have e1 : (F_lamp s p z u v).1 164 19 = s.1 164 19 + 1 := by unfold F_lamp mT; rw [zI_eq, e0]
  have e2 : (F_lamp s p z u v).1 64 5 = s.1 164 19 + 1 := by
    simp [F_lamp, mT, mF_lamp, cF_lamp, cT, zI_1, hob]
  have e3 : (F_lamp s p z u v).1 64 10 = s.1 64 10 + 1 := by
    simp [F_lamp, mT, mF_lamp, cF_lamp, cT, zI_1, hob]
  obtain ⟨a, b⟩ := RelT_add (I' := (F_lamp s p z u v).1) hT hlt e1 e2 (by
    intro t ht hne k
    have hob2 := ob92 ht
    simp [F_lamp, mT, mF_lamp, cF_lamp, cT, zI_1, hob, hob2, hne]) (by
    intro o ho1 ho2 t hne
    have h1 : ¬ o = 92 + nT s.1 := by omega
    have h2 : ¬ o = 64 := by omega
    have h3 : ¬ o = 164 := by omega
    unfold F_lamp mT
    rw [en]
    simp [mF_lamp, cF_lamp, cT, zI_1, h1, h2, h3, hne]) (by
    unfold tNew at hn
    unfold tOK
    unfold F_lamp mT
    rw [en]
    have p1 := bPl_v h1; have z1 := bR_255 h2
    simp [-Int32.toInt_div, -Int32.toInt_mod, mF_lamp, cF_lamp, cT, zI_1, hob, hn, p1, z1, h3])
  exact ⟨a, b, e3⟩
