/-! ===== ways, slopes, and what hides ===== -/
def wayF (a b : Int32) : Int32 :=
  if zabs a + zabs b = 0 then 0
  else if 0 < a ∧ 0 ≤ b then 64 * b / (zabs a + zabs b)
  else if a ≤ 0 ∧ 0 < b then 64 + 64 * (-a) / (zabs a + zabs b)
  else if a < 0 then 128 + 64 * (-b) / (zabs a + zabs b)
  else 192 + 64 * a / (zabs a + zabs b)
def slopeF (n rise : Int32) : Int32 := if n = 0 then 999 else zmax (-999) (zmin 999 (zfd (100 * rise) n))
/-- the first hill above the line, from step k on -/
def hidL (I : zM2) (fx fy e dx dy rz : Int32) : Nat → Nat → Int32
  | 0, _ => -1
  | m + 1, k => if mG I (fx + (dx * nI k) >>> 4) (fy + (dy * nI k) >>> 4) ≤ e + (rz * nI k) >>> 4 then hidL I fx fy e dx dy rz m (k + 1) else mH I (fx + (dx * nI k) >>> 4) (fy + (dy * nI k) >>> 4)
section WS
variable {l : Launch} {g : zG} {d : Nat} {s : zS} {a b : Int32} {K : Int32 → zS → Prop}
theorem way_t {P : Int32 → Prop} (h : P (wayF a b)) : (if zabs a + zabs b = 0 then P 0 else (if a ≤ 0 then (if 0 < a then (if 0 ≤ a then (¬ (zabs a + zabs b) = 0 ∧ P (192 + 64 * a / (zabs a + zabs b))) else (¬ (zabs a + zabs b) = 0 ∧ P (128 + 64 * (-b) / (zabs a + zabs b)))) else (if b ≤ 0 then (if 0 ≤ a then (¬ (zabs a + zabs b) = 0 ∧ P (192 + 64 * a / (zabs a + zabs b))) else (¬ (zabs a + zabs b) = 0 ∧ P (128 + 64 * (-b) / (zabs a + zabs b)))) else (¬ (zabs a + zabs b) = 0 ∧ P (64 + 64 * (-a) / (zabs a + zabs b))))) else (if b < 0 then (if 0 < a then (if 0 ≤ a then (¬ (zabs a + zabs b) = 0 ∧ P (192 + 64 * a / (zabs a + zabs b))) else (¬ (zabs a + zabs b) = 0 ∧ P (128 + 64 * (-b) / (zabs a + zabs b)))) else (if b ≤ 0 then (if 0 ≤ a then (¬ (zabs a + zabs b) = 0 ∧ P (192 + 64 * a / (zabs a + zabs b))) else (¬ (zabs a + zabs b) = 0 ∧ P (128 + 64 * (-b) / (zabs a + zabs b)))) else (¬ (zabs a + zabs b) = 0 ∧ P (64 + 64 * (-a) / (zabs a + zabs b))))) else (¬ (zabs a + zabs b) = 0 ∧ P (64 * b / (zabs a + zabs b)))))) := by
  unfold wayF at h
  by_cases c0 : zabs a + zabs b = 0
  · rw [if_pos c0]; rw [if_pos c0] at h; exact h
  rw [if_neg c0]; rw [if_neg c0] at h
  by_cases c1 : a ≤ 0
  · have n1 : ¬ 0 < a := by rw [ti_lt]; rw [ti_le] at c1; omega
    rw [if_pos c1, if_neg n1]
    rw [if_neg (fun w => n1 w.1)] at h
    by_cases c2 : b ≤ 0
    · have n2 : ¬ 0 < b := by rw [ti_lt]; rw [ti_le] at c2; omega
      rw [if_pos c2]
      rw [if_neg (fun w => n2 w.2)] at h
      by_cases c3 : 0 ≤ a
      · have n3 : ¬ a < 0 := by rw [ti_lt]; rw [ti_le] at c3; omega
        rw [if_pos c3]; rw [if_neg n3] at h; exact ⟨c0, h⟩
      · have n3 : a < 0 := by rw [ti_lt]; rw [ti_le] at c3; omega
        rw [if_neg c3]; rw [if_pos n3] at h; exact ⟨c0, h⟩
    · have n2 : 0 < b := by rw [ti_lt]; rw [ti_le] at c2; omega
      rw [if_neg c2]
      rw [if_pos ⟨c1, n2⟩] at h
      exact ⟨c0, h⟩
  · have n1 : 0 < a := by rw [ti_lt]; rw [ti_le] at c1; omega
    have n3 : 0 ≤ a := by rw [ti_le]; rw [ti_lt] at n1; omega
    have n4 : ¬ a < 0 := by rw [ti_lt]; rw [ti_lt] at n1; omega
    rw [if_neg c1]
    by_cases c2 : b < 0
    · have n2 : ¬ 0 ≤ b := by rw [ti_le]; rw [ti_lt] at c2; omega
      rw [if_pos c2, if_pos n1, if_pos n3]
      rw [if_neg (fun w => n2 w.2), if_neg (fun w => c1 w.1), if_neg n4] at h
      exact ⟨c0, h⟩
    · have n2 : 0 ≤ b := by rw [ti_le]; rw [ti_lt] at c2; omega
      rw [if_neg c2]
      rw [if_pos ⟨n1, n2⟩] at h
      exact ⟨c0, h⟩
theorem c_wayOf (hR : zRok s) (h : K (wayF a b) s) : zc l g (d + 1) M_X7_wayOf [.int a, .int b] s (zKi K) :=
  t_X7_wayOf hR (way_t (P := fun r => K r s) h)
theorem m_wayOf (hR : zRok s) (h : K (wayF a b) s) : zc l g (d + 1) M_X8_wayOf [.int a, .int b] s (zKi K) :=
  t_X8_wayOf hR (way_t (P := fun r => K r s) h)
theorem c_slopeOf (hR : zRok s) (h : K (slopeF b a) s) : zc l g (d + 2) M_X7_slopeOf [.int a, .int b] s (zKi K) := by
  refine t_X7_slopeOf hR ?_
  unfold slopeF at h
  by_cases c : b = 0
  · rw [if_pos c]; rw [if_pos c] at h; exact h
  · rw [if_neg c]; rw [if_neg c, zmin_c] at h
    exact ⟨c, t_X7_within hR ⟨rfl, h⟩⟩
theorem m_slopeOf (hR : zRok s) {c : Int32} (h : K (slopeF (zabs a + zabs b) c) s) : zc l g (d + 1) M_X8_slopeOf [.int a, .int b, .int c] s (zKi K) := by
  refine t_X8_slopeOf hR ?_
  unfold slopeF at h
  by_cases q : zabs a + zabs b = 0
  · rw [if_pos q]; rw [if_pos q] at h; exact h
  · rw [if_neg q]; rw [if_neg q] at h; exact ⟨q, h⟩
end WS
section HD
variable {l : Launch} {g : zG} {d : Nat} {s : zS} {K : Int32 → zS → Prop}
theorem m_eye (hR : zRok s) {p : Int32} (hn : RN s.1 164 17 8) (hv : vp_in p 20) (h : K (mG s.1 (s.1 170 p.toNatClampNeg) (s.1 171 p.toNatClampNeg) + 1) s) : zc l g (d + 3) M_X8_eye [.ref 164, .int p] s (zKi K) :=
  t_X8_eye hR ⟨hv, hv, m_groundAt hR hn ⟨rfl, h⟩⟩
theorem m_hider_30 (hR : zRok s) {p z e dx dy : Int32} (hn : RN s.1 164 17 8) (hv : vp_in p 20) : ∀ m k, k + m = 16 → K (hidL s.1 (s.1 170 p.toNatClampNeg) (s.1 171 p.toNatClampNeg) e dx dy (z - e) m k) s → zt l g (d + 3) M_X8_hider 30 [.ref 164, .int p, zJ, zJ, .int z, .int e, .int dx, .int dy, .int (nI k), zJ, zJ] [] s (zKi K) := by
  intro m
  induction m with
  | zero =>
    intro k hk h
    refine t_X8_hider_30 hR ?_
    rw [if_pos (by rw [ti_le, nI_toInt (by omega)]; simp only [til]; omega)]
    exact h
  | succ m ih =>
    intro k hk h
    refine t_X8_hider_30 hR ?_
    rw [if_neg (by rw [ti_le, nI_toInt (by omega)]; simp only [til]; omega)]
    refine ⟨hv, ?_⟩
    intro v2 e2
    refine ⟨hv, ?_⟩
    intro v4 e4
    subst e2 e4
    rw [zfd16, zfd16, zfd16, ← nI_succ]
    refine m_groundAt hR hn ⟨rfl, ?_⟩
    unfold hidL at h
    by_cases c : mG s.1 (s.1 170 p.toNatClampNeg + (dx * nI k) >>> 4) (s.1 171 p.toNatClampNeg + (dy * nI k) >>> 4) ≤ e + ((z - e) * nI k) >>> 4
    · rw [if_pos c]; rw [if_pos c] at h; exact ih (k + 1) (by omega) h
    · rw [if_neg c]; rw [if_neg c] at h; exact m_hillAt hR hn ⟨rfl, h⟩
/-- the reference's hider -/
def hidF (I : zM2) (i : Nat) (x y z : Int32) : Int32 :=
  hidL I (I 170 i) (I 171 i) (mG I (I 170 i) (I 171 i) + 1) (x - I 170 i) (y - I 171 i) (z - (mG I (I 170 i) (I 171 i) + 1)) 15 1
theorem m_hider (hR : zRok s) {p x y z : Int32} (hn : RN s.1 164 17 8) (hv : vp_in p 20) (h : K (hidF s.1 p.toNatClampNeg x y z) s) : zc l g (d + 4) M_X8_hider [.ref 164, .int p, .int x, .int y, .int z] s (zKi K) := by
  refine t_X8_hider hR (m_eye hR hn hv ⟨rfl, hv, ?_⟩)
  intro v4 e4
  refine ⟨hv, ?_⟩
  intro v6 e6
  subst e4 e6
  exact m_hider_30 hR hn hv 15 1 (by omega) h
end HD
