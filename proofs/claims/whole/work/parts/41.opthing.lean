/-! ===== star, flies, flare, lamp: both sides ===== -/
theorem zq1 {x : Int32} {a b : Int64} {lo hi : Int} (h1 : a.toInt = lo) (h2 : b.toInt = hi) : zinr x.toInt64 a b = bR lo hi x := by rw [bR_z, h1, h2]
theorem c_full {s : zS} {P : Prop} {A : zS → Prop} (hT : RelT s.1) (h1 : s.1 164 19 = 12 → A s) (h2 : nT s.1 < 12 → P) : (if s.1 64 5 < 12 then P else A s) := by
  rw [hT.2.1]
  by_cases q : s.1 164 19 = 12
  · rw [if_neg (by rw [q]; decide)]; exact h1 q
  · have hl : nT s.1 < 12 := RN_lt hT.1 rfl q
    rw [if_pos (by rw [ti_lt]; simp only [til]; have := ti_tn hT.1.1; unfold nT at hl; omega)]
    exact h2 hl
section OT2
variable {l : Launch} {g : zG} {d : Nat} {s : zS}
theorem op_star (hR : zRok s) {p q r : Int32} {Q : zS → Prop} (hT : RelT s.1) (h1 : Q s) (h2 : ∀ s', zE thingS s s' → RelT s'.1 → nT s'.1 = nT s.1 + 1 → s'.1 64 10 = s.1 64 10 + 1 → Q s') :
    zc l g (d + 2) M_X7_star [.ref 64, .int p, .int q, .int r] s (zKi fun r1 s5 => zc l g (d + 2) M_X8_star [.ref 164, .int p, .int q, .int r] s5 (zKi fun r' s10 => r1 = r' ∧ Q s10)) := by
  have e1 : zinr p.toInt64 0 255 = bR 0 255 p := zq1 rfl rfl
  have e2 : zinr q.toInt64 0 999 = bR 0 999 q := zq1 rfl rfl
  have e3 : zinr r.toInt64 (-9) 9 = bR (-9) 9 r := zq1 rfl rfl
  have rej : ¬ (bR 0 255 p = true ∧ bR 0 999 q = true ∧ bR (-9) 9 r = true ∧ ¬ s.1 164 19 = 12) → zc l g (d + 2) M_X8_star [.ref 164, .int p, .int q, .int r] s (zKi fun r' s10 => (-1 : Int32) = r' ∧ Q s10) := by
    intro w
    refine t_X8_star hR ?_
    rw [e1, e2, e3]
    by_cases a1 : bR 0 255 p = true
    · rw [if_pos a1]
      by_cases a2 : bR 0 999 q = true
      · rw [if_pos a2]
        by_cases a3 : bR (-9) 9 r = true
        · rw [if_pos a3]
          by_cases a4 : s.1 164 19 = 12
          · rw [if_pos a4]; exact ⟨rfl, h1⟩
          · exact absurd ⟨a1, a2, a3, a4⟩ w
        · rw [if_neg a3]; exact ⟨rfl, h1⟩
      · rw [if_neg a2]; exact ⟨rfl, h1⟩
    · rw [if_neg a1]; exact ⟨rfl, h1⟩
  refine t_X7_star hR (c_isWay hR ⟨rfl, ?_⟩)
  by_cases a1 : bR 0 255 p = true
  rotate_left
  · rw [if_neg a1]; exact rej (fun w => a1 w.1)
  rw [if_pos a1]
  refine c_isToldSlope hR ⟨rfl, ?_⟩
  by_cases a2 : bR 0 999 q = true
  rotate_left
  · rw [if_neg a2]; exact rej (fun w => a2 w.2.1)
  rw [if_pos a2]
  by_cases a3 : bR (-9) 9 r = true
  rotate_left
  · have r0 := rej (fun w => a3 w.2.2.1)
    rw [bR_t] at a3
    simp only [ti_lt, til]
    by_cases u : r.toInt < -9
    · rw [if_pos u]; exact r0
    · rw [if_neg u, if_pos (by omega)]; exact r0
  have a3' := bR_t.mp a3
  rw [if_neg (by rw [ti_lt]; simp only [til]; omega), if_neg (by rw [ti_lt]; simp only [til]; omega)]
  refine c_full (A := fun s => zc l g (d + 2) M_X8_star [.ref 164, .int p, .int q, .int r] s (zKi fun r' s10 => (-1 : Int32) = r' ∧ Q s10)) hT (fun a4 => rej (fun w => w.2.2.2 a4)) ?_
  intro hlt
  refine c_newThing hR hT hlt ⟨rfl, by omega, ?_⟩
  obtain ⟨n1, n2, n3, n4, nE, nE2⟩ := F_star_n (s := s) (p := p) (q := q) (r := r) hlt
  have hok := F_star_ok (s := s) (p := p) (q := q) (r := r) hT hlt a1 a2 a3
  have hR5 := zE_K nE2 hR
  have e5 : (cT s 0 239 0 0).1 64 5 = s.1 164 19 + 1 := by unfold cT; rw [zI_k (by decide), zI_eq]
  rw [e5, i32_s1]
  show zc l g (d + 2) M_X8_star _ (cF_star s p q r) _
  refine t_X8_star hR5 ?_
  have hne : ¬ s.1 164 19 = 12 := by
    intro w
    have : nT s.1 = 12 := by unfold nT; rw [w]; rfl
    omega
  have hv : vp_in (s.1 164 19) 12 := vin_i hT.1.1 (by have := ti_tn hT.1.1; unfold nT at hlt; omega)
  rw [e1, e2, e3, if_pos a1, if_pos a2, if_pos a3, n3, if_neg hne]
  refine ⟨hv, hv, ?_⟩
  have hn' : RN (mF_star s p q r).1 164 19 12 := by unfold RN; rw [n2]; exact hT.1
  refine m_adds (s := mF_star s p q r) (zE_K nE hR) hn' (by omega) ⟨rfl, ?_, h2 _ hok.1 hok.2.1 hok.2.2.1 hok.2.2.2⟩
  exact n2.symm
theorem op_flare (hR : zRok s) {m p z v : Int32} {Q : zS → Prop} (hT : RelT s.1) (h1 : Q s) (h2 : ∀ s', zE thingS s s' → RelT s'.1 → nT s'.1 = nT s.1 + 1 → s'.1 64 10 = s.1 64 10 + 1 → Q s') :
    zc l g (d + 3) M_X7_flare [.ref 64, .int m, .int p, .int z, .int v] s (zKi fun r1 s5 => zc l g (d + 3) M_X8_flare [.ref 164, .int m, .int p, .int z, .int v] s5 (zKi fun r' s10 => r1 = r' ∧ Q s10)) := by
  have e1 : zinr z.toInt64 0 255 = bR 0 255 z := zq1 rfl rfl
  have e2 : zinr v.toInt64 0 20 = bR 0 20 v := zq1 rfl rfl
  have rej : ¬ (bSpan m = true ∧ bR 0 4095 p = true ∧ bR 0 255 z = true ∧ bR 0 20 v = true ∧ ¬ s.1 164 19 = 12) → zc l g (d + 3) M_X8_flare [.ref 164, .int m, .int p, .int z, .int v] s (zKi fun r' s10 => (-1 : Int32) = r' ∧ Q s10) := by
    intro w
    refine t_X8_flare hR (m_areMinutes hR ⟨rfl, ?_⟩)
    by_cases a1 : bSpan m = true
    · rw [if_pos a1]
      refine m_isPlace hR ⟨rfl, ?_⟩
      rw [e1, e2]
      by_cases a2 : bR 0 4095 p = true
      · rw [if_pos a2]
        by_cases a3 : bR 0 255 z = true
        · rw [if_pos a3]
          by_cases a4 : bR 0 20 v = true
          · rw [if_pos a4]
            by_cases a5 : s.1 164 19 = 12
            · rw [if_pos a5]; exact ⟨rfl, h1⟩
            · exact absurd ⟨a1, a2, a3, a4, a5⟩ w
          · rw [if_neg a4]; exact ⟨rfl, h1⟩
        · rw [if_neg a3]; exact ⟨rfl, h1⟩
      · rw [if_neg a2]; exact ⟨rfl, h1⟩
    · rw [if_neg a1]; exact ⟨rfl, h1⟩
  refine t_X7_flare hR (c_isSpan hR ⟨rfl, ?_⟩)
  by_cases a1 : bSpan m = true
  rotate_left
  · rw [if_neg a1]; exact rej (fun w => a1 w.1)
  rw [if_pos a1]
  refine c_isPlace hR ⟨rfl, ?_⟩
  by_cases a2 : bR 0 4095 p = true
  rotate_left
  · rw [if_neg a2]; exact rej (fun w => a2 w.2.1)
  rw [if_pos a2]
  refine c_isHeight hR ⟨rfl, ?_⟩
  by_cases a3 : bR 0 255 z = true
  rotate_left
  · rw [if_neg a3]; exact rej (fun w => a3 w.2.2.1)
  rw [if_pos a3]
  refine c_isFall hR ⟨rfl, ?_⟩
  by_cases a4 : bR 0 20 v = true
  rotate_left
  · rw [if_neg a4]; exact rej (fun w => a4 w.2.2.2.1)
  rw [if_pos a4]
  refine c_full (A := fun s => zc l g (d + 3) M_X8_flare [.ref 164, .int m, .int p, .int z, .int v] s (zKi fun r' s10 => (-1 : Int32) = r' ∧ Q s10)) hT (fun a5 => rej (fun w => w.2.2.2.2 a5)) ?_
  intro hlt
  refine c_newThing hR hT hlt ⟨rfl, by omega, ?_⟩
  obtain ⟨n1, n2, n3, n4, nE, nE2⟩ := F_flare_n (s := s) (m := m) (p := p) (z := z) (v := v) hlt
  have hok := F_flare_ok (s := s) (m := m) (p := p) (z := z) (v := v) hT hlt a1 a2 a3 a4
  have hR5 := zE_K nE2 hR
  have e5 : (cT s 2 m p z).1 64 5 = s.1 164 19 + 1 := by unfold cT; rw [zI_k (by decide), zI_eq]
  rw [e5, i32_s1]
  show zc l g (d + 3) M_X8_flare _ (cF_flare s m p z v) _
  refine t_X8_flare hR5 (m_areMinutes hR5 ⟨rfl, ?_⟩)
  rw [if_pos a1]
  refine m_isPlace hR5 ⟨rfl, ?_⟩
  have hne : ¬ s.1 164 19 = 12 := by
    intro w
    have : nT s.1 = 12 := by unfold nT; rw [w]; rfl
    omega
  have hv : vp_in (s.1 164 19) 12 := vin_i hT.1.1 (by have := ti_tn hT.1.1; unfold nT at hlt; omega)
  rw [e1, e2, if_pos a2, if_pos a3, if_pos a4, n3, if_neg hne]
  refine ⟨hv, ?_⟩
  have hn' : RN (mF_flare s m p z v).1 164 19 12 := by unfold RN; rw [n2]; exact hT.1
  refine m_adds (s := mF_flare s m p z v) (zE_K nE hR) hn' (by omega) ⟨?_, ?_, h2 _ hok.1 hok.2.1 hok.2.2.1 hok.2.2.2⟩
  · rfl
  · exact n2.symm
end OT2
