/-! ===== where a thing is ===== -/
def dvF (I : zM2) (t : Nat) : Int32 := if I 172 t = 1 then 4 else if I 172 t = 4 then 16 else 1
def pX (I : zM2) (t : Nat) (m : Int32) : Int32 := if I 172 t = 3 then I 175 t else if I 172 t = 2 then I 175 t else I 175 t + zfd (I 178 t * (m - I 173 t)) (dvF I t)
def pY (I : zM2) (t : Nat) (m : Int32) : Int32 := if I 172 t = 3 then I 176 t else if I 172 t = 2 then I 176 t else I 176 t + zfd (I 179 t * (m - I 173 t)) (dvF I t)
def pZ (I : zM2) (t : Nat) (m : Int32) : Int32 := if I 172 t = 3 then mG I (I 175 t) (I 176 t) + I 177 t else if I 172 t = 2 then I 177 t - I 178 t * (m - I 173 t) else I 177 t
def pIs (I : zM2) (t : Nat) (m : Int32) : Bool := if I 172 t = 3 then true else if bR (I 173 t).toInt (I 174 t).toInt m = true then (if I 172 t = 2 then decide (¬ I 177 t - I 178 t * (m - I 173 t) ≤ mG I (I 175 t) (I 176 t)) else true) else false
def atS : Nat → Nat → Prop := fun o k => o = 164 ∧ (k = 20 ∨ k = 21 ∨ k = 22)
theorem mG_at {s s' : zS} (h : zE atS s s') (x y : Int32) : mG s'.1 x y = mG s.1 x y :=
  mG_c (fun o a b k => h.2 o k (by unfold atS; omega)) (h.2 164 17 (by simp [atS])) x y
section AT
variable {l : Launch} {g : zG} {d : Nat} {s : zS} {p m : Int32}
theorem m_isAt (hR : zRok s) {K : Bool → zS → Prop} (hn : RN s.1 164 17 8) (hv : vp_in p 12) (h : ∀ s', zE atS s s' → (pIs s.1 p.toNatClampNeg m = true → s'.1 164 20 = pX s.1 p.toNatClampNeg m ∧ s'.1 164 21 = pY s.1 p.toNatClampNeg m ∧ s'.1 164 22 = pZ s.1 p.toNatClampNeg m) → K (pIs s.1 p.toNatClampNeg m) s') : zc l g (d + 3) M_X8_isAt [.ref 164, .int p, .int m] s (zKz K) := by
  generalize ht : p.toNatClampNeg = t at *
  refine t_X8_isAt hR ?_
  rw [ht]
  have z3 : zE atS s (zI (zI (zI s 164 20 (s.1 175 t)) 164 21 (s.1 176 t)) 164 22 (s.1 177 t)) := zE_i (zE_i (zE_i0 (by simp [atS])) (by simp [atS])) (by simp [atS])
  refine ⟨hv, hv, hv, hv, ?_⟩
  by_cases k3 : s.1 172 t = 3
  · rw [if_pos k3]
    have eI : pIs s.1 t m = true := by unfold pIs; rw [if_pos k3]
    refine m_groundAt (zE_K z3 hR) (by unfold RN; exact hn) ⟨rfl, hv, ?_⟩
    rw [mG_at z3]
    rw [eI] at h
    refine h _ (zE_i z3 (by simp [atS])) (fun _ => ⟨?_, ?_, ?_⟩)
    · unfold pX; rw [if_pos k3]; rfl
    · unfold pY; rw [if_pos k3]; rfl
    · unfold pZ; rw [if_pos k3, zI_eq]; rfl
  rw [if_neg k3]
  refine ⟨hv, hv, ?_⟩
  rw [bR_z3]
  by_cases kr : bR (s.1 173 t).toInt (s.1 174 t).toInt m = true
  rotate_left
  · rw [if_neg kr]
    have eI : pIs s.1 t m = false := by unfold pIs; rw [if_neg k3, if_neg kr]
    rw [eI] at h
    exact h _ z3 (fun w => absurd w (by decide))
  rw [if_pos kr]
  refine ⟨hv, ?_⟩
  intro v8 hv8
  subst hv8
  refine ⟨hv, ?_⟩
  by_cases k2 : s.1 172 t = 2
  · rw [if_pos k2]
    have z4 := zE_i (v := s.1 177 t - s.1 178 t * (m - s.1 173 t)) z3 (o := 164) (k := 22) (by simp [atS])
    refine ⟨hv, hv, m_groundAt (zE_K z4 hR) (by unfold RN; exact hn) ⟨rfl, ?_⟩⟩
    rw [mG_at z4]
    by_cases kg : s.1 177 t - s.1 178 t * (m - s.1 173 t) ≤ mG s.1 (s.1 175 t) (s.1 176 t)
    · rw [if_pos kg]
      have eI : pIs s.1 t m = false := by unfold pIs; rw [if_neg k3, if_pos kr, if_pos k2]; simp [kg]
      rw [eI] at h
      exact h _ z4 (fun w => absurd w (by decide))
    · rw [if_neg kg]
      have eI : pIs s.1 t m = true := by unfold pIs; rw [if_neg k3, if_pos kr, if_pos k2]; simp [kg]
      rw [eI] at h
      refine h _ z4 (fun _ => ⟨?_, ?_, ?_⟩)
      · unfold pX; rw [if_neg k3, if_pos k2]; rfl
      · unfold pY; rw [if_neg k3, if_pos k2]; rfl
      · unfold pZ; rw [if_neg k3, if_pos k2]; rfl
  rw [if_neg k2]
  have eI : pIs s.1 t m = true := by unfold pIs; rw [if_neg k3, if_pos kr, if_neg k2]
  rw [eI] at h
  have fin : ∀ w : Int32, dvF s.1 t = w → K true (zI (zI (zI (zI (zI s 164 20 (s.1 175 t)) 164 21 (s.1 176 t)) 164 22 (s.1 177 t)) 164 20 (s.1 175 t + zfd (s.1 178 t * (m - s.1 173 t)) w)) 164 21 (s.1 176 t + zfd (s.1 179 t * (m - s.1 173 t)) w)) := by
    intro w hw
    refine h _ (zE_i (zE_i z3 (by simp [atS])) (by simp [atS])) (fun _ => ⟨?_, ?_, ?_⟩)
    · unfold pX; rw [if_neg k3, if_neg k2, hw]; rfl
    · unfold pY; rw [if_neg k3, if_neg k2, hw]; rfl
    · unfold pZ; rw [if_neg k3, if_neg k2]; rfl
  refine ⟨hv, ?_⟩
  by_cases k1 : s.1 172 t = 1
  · rw [if_pos k1]
    exact ⟨hv, hv, fin 4 (by unfold dvF; rw [if_pos k1])⟩
  rw [if_neg k1]
  refine ⟨hv, ?_⟩
  by_cases k4 : s.1 172 t = 4
  · rw [if_pos k4]
    exact ⟨hv, hv, fin 16 (by unfold dvF; rw [if_neg k1, if_pos k4])⟩
  rw [if_neg k4]
  exact ⟨hv, hv, fin 1 (by unfold dvF; rw [if_neg k1, if_neg k4])⟩
end AT
theorem zfd01 (a : Int32) : zfd (0 * a) 1 = 0 := by rw [Int32.zero_mul]; decide
section AC
variable {l : Launch} {g : zG} {d : Nat} {s : zS} {m : Int32} {t : Nat}
theorem c_xIn (hR : zRok s) {K : Int32 → zS → Prop} (ht : t < 12) (ho : tOK s.1 t) (h0 : ¬ s.1 172 t = 0) (h : K (pX s.1 t m) s) : zc l g (d + 1) M_X6_xIn [.ref (92 + t), .int m] s (zKi K) := by
  have o2 := (ho.2.resolve_left (fun w => h0 w.1)).2
  have hb : 92 ≤ 92 + t ∧ 92 + t < 104 := by omega
  refine t_X6_xIn (o := 92 + t) (p0 := m) (K := K) hR hb ?_
  unfold pX dvF at h
  simp only [o2.1]
  rcases o2.2.2.2.2.2.2 with w | w
  · rw [if_pos w.1] at h
    rw [w.2.2.2.2.2.2.2.2, w.2.2.2.2.2.2.1, if_neg (by decide), zfd01, Int32.add_zero]
    exact ⟨by decide, h⟩
  rw [if_neg w.1] at h
  rcases w.2.2.2.2.2.2 with u | u
  · rw [if_pos u.1] at h
    rw [u.2.2.2.2.2, u.2.2.2.1, if_neg (by decide), zfd01, Int32.add_zero]
    exact ⟨by decide, h⟩
  rw [if_neg u.1] at h
  rw [u.2.2.1, w.2.1]
  rcases u.2.2.2.2.2.2 with v | v | v
  · rw [v.1, if_pos rfl] at h; rw [v.2, if_neg (by decide)]; exact ⟨by decide, h⟩
  · rw [v.1, if_neg (by decide), if_pos rfl] at h; rw [v.2, if_neg (by decide)]; exact ⟨by decide, h⟩
  · rw [v.1, if_neg (by decide), if_neg (by decide)] at h; rw [v.2, if_neg (by decide)]; exact ⟨by decide, h⟩
theorem c_yIn (hR : zRok s) {K : Int32 → zS → Prop} (ht : t < 12) (ho : tOK s.1 t) (h0 : ¬ s.1 172 t = 0) (h : K (pY s.1 t m) s) : zc l g (d + 1) M_X6_yIn [.ref (92 + t), .int m] s (zKi K) := by
  have o2 := (ho.2.resolve_left (fun w => h0 w.1)).2
  have hb : 92 ≤ 92 + t ∧ 92 + t < 104 := by omega
  refine t_X6_yIn (o := 92 + t) (p0 := m) (K := K) hR hb ?_
  unfold pY dvF at h
  simp only [o2.2.1]
  rcases o2.2.2.2.2.2.2 with w | w
  · rw [if_pos w.1] at h
    rw [w.2.2.2.2.2.2.2.2, w.2.2.2.2.2.2.2.1, if_neg (by decide), zfd01, Int32.add_zero]
    exact ⟨by decide, h⟩
  rw [if_neg w.1] at h
  rcases w.2.2.2.2.2.2 with u | u
  · rw [if_pos u.1] at h
    rw [u.2.2.2.2.2, u.2.2.2.2.1, if_neg (by decide), zfd01, Int32.add_zero]
    exact ⟨by decide, h⟩
  rw [if_neg u.1] at h
  rw [u.2.2.2.1, w.2.1]
  rcases u.2.2.2.2.2.2 with v | v | v
  · rw [v.1, if_pos rfl] at h; rw [v.2, if_neg (by decide)]; exact ⟨by decide, h⟩
  · rw [v.1, if_neg (by decide), if_pos rfl] at h; rw [v.2, if_neg (by decide)]; exact ⟨by decide, h⟩
  · rw [v.1, if_neg (by decide), if_neg (by decide)] at h; rw [v.2, if_neg (by decide)]; exact ⟨by decide, h⟩
theorem c_zIn (hR : zRok s) {K : Int32 → zS → Prop} (hH : RelH s.1) (ht : t < 12) (ho : tOK s.1 t) (h0 : ¬ s.1 172 t = 0) (h : K (pZ s.1 t m) s) : zc l g (d + 1) M_X6_zIn [.ref (92 + t), .int m, .ref 65] s (zKi K) := by
  have o2 := (ho.2.resolve_left (fun w => h0 w.1)).2
  refine t_X6_zIn hR (by omega) ?_
  unfold pZ at h
  rw [ho.1, o2.1, o2.2.1, o2.2.2.1]
  rcases o2.2.2.2.2.2.2 with w | w
  · rw [if_pos w.1] at h
    rw [if_pos w.1]
    refine c_groundAt hR hH ⟨rfl, ?_⟩
    rw [o2.2.2.1]; exact h
  rw [if_neg w.1] at h
  rw [if_neg w.1]
  rcases w.2.2.2.2.2.2 with u | u
  · rw [if_pos u.1] at h
    rw [u.2.1, w.2.1]; exact h
  rw [if_neg u.1] at h
  rw [u.2.1, Int32.zero_mul, Int32.sub_zero]; exact h
theorem c_isThere (hR : zRok s) {K : Bool → zS → Prop} (hH : RelH s.1) (ht : t < 12) (ho : tOK s.1 t) (hm : bR 0 239 m = true) (h : K (!decide (s.1 172 t = 0) && pIs s.1 t m) s) : zc l g (d + 1) M_X6_isThere [.ref (92 + t), .int m, .ref 65] s (zKz K) := by
  refine t_X6_isThere hR (by omega) ?_
  have hm2 := bR_t.mp hm
  rw [ho.1]
  by_cases h0 : s.1 172 t = 0
  · rw [if_pos h0]; rw [decide_eq_true h0] at h; exact h
  rw [if_neg h0]
  rw [decide_eq_false h0, Bool.not_false, Bool.true_and] at h
  have o2 := (ho.2.resolve_left (fun w => h0 w.1)).2
  unfold pIs at h
  rw [o2.1, o2.2.1, o2.2.2.1]
  rcases o2.2.2.2.2.2.2 with w | w
  · rw [if_pos w.1] at h
    rw [w.2.1, w.2.2.1, if_neg (by rw [ti_lt, til.1]; omega), if_pos (by rw [ti_le]; simp only [til]; omega), if_neg (by rw [w.1]; decide)]
    exact h
  rw [if_neg w.1] at h
  rw [w.2.1, w.2.2.1]
  by_cases kr : bR (s.1 173 t).toInt (s.1 174 t).toInt m = true
  · rw [if_pos kr] at h
    have b := bR_t.mp kr
    rw [if_neg (by rw [ti_lt]; omega), if_pos (by rw [ti_le]; omega)]
    by_cases k2 : s.1 172 t = 2
    · rw [if_pos k2] at h
      rw [if_pos k2]
      refine c_groundAt hR hH ⟨rfl, ?_⟩
      have u := w.2.2.2.2.2.2.resolve_right (fun u => u.1 k2)
      rw [u.2.1]
      by_cases kg : s.1 177 t - s.1 178 t * (m - s.1 173 t) ≤ mG s.1 (s.1 175 t) (s.1 176 t)
      · rw [if_pos kg]; simp only [kg, not_true_eq_false, decide_false] at h; exact h
      · rw [if_neg kg]; simp only [kg, not_false_eq_true, decide_true] at h; exact h
    · rw [if_neg k2] at h
      rw [if_neg k2]; exact h
  · rw [if_neg kr] at h
    rw [bR_t] at kr
    by_cases u : m < s.1 173 t
    · rw [if_pos u]; exact h
    · rw [if_neg u, if_neg (by rw [ti_le]; rw [ti_lt] at u; omega)]; exact h
end AC
