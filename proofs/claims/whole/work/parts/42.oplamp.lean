/-! ===== lamp and flies: both sides ===== -/
section OT3
variable {l : Launch} {g : zG} {d : Nat} {s : zS}
theorem op_lamp (hR : zRok s) {p z u v : Int32} {Q : zS → Prop} (hT : RelT s.1) (h1 : Q s) (h2 : ∀ s', zE thingS s s' → RelT s'.1 → nT s'.1 = nT s.1 + 1 → s'.1 64 10 = s.1 64 10 + 1 → Q s') :
    zc l g (d + 3) M_X7_lamp [.ref 64, .int p, .int z, .int u, .int v] s (zKi fun r1 s5 => zc l g (d + 3) M_X8_lamp [.ref 164, .int p, .int z, .int u, .int v] s5 (zKi fun r' s10 => r1 = r' ∧ Q s10)) := by
  have e1 : zinr z.toInt64 0 60 = bR 0 60 z := zq1 rfl rfl
  have e2 : zinr u.toInt64 1 30 = bR 1 30 u := zq1 rfl rfl
  have e3 : bR 1 30 u = true → zinr v.toInt64 0 (u - 1).toInt64 = bR 0 (u.toInt - 1) v := fun w => bzN rfl (by rw [bR_t] at w; omega)
  have rej : ¬ (bR 0 4095 p = true ∧ bR 0 60 z = true ∧ bR 1 30 u = true ∧ bR 0 (u.toInt - 1) v = true ∧ ¬ s.1 164 19 = 12) → zc l g (d + 3) M_X8_lamp [.ref 164, .int p, .int z, .int u, .int v] s (zKi fun r' s10 => (-1 : Int32) = r' ∧ Q s10) := by
    intro w
    refine t_X8_lamp hR (m_isPlace hR ⟨rfl, ?_⟩)
    rw [e1, e2]
    by_cases a1 : bR 0 4095 p = true
    · rw [if_pos a1]
      by_cases a2 : bR 0 60 z = true
      · rw [if_pos a2]
        by_cases a3 : bR 1 30 u = true
        · rw [if_pos a3, e3 a3]
          by_cases a4 : bR 0 (u.toInt - 1) v = true
          · rw [if_pos a4]
            by_cases a5 : s.1 164 19 = 12
            · rw [if_pos a5]; exact ⟨rfl, h1⟩
            · exact absurd ⟨a1, a2, a3, a4, a5⟩ w
          · rw [if_neg a4]; exact ⟨rfl, h1⟩
        · rw [if_neg a3]; exact ⟨rfl, h1⟩
      · rw [if_neg a2]; exact ⟨rfl, h1⟩
    · rw [if_neg a1]; exact ⟨rfl, h1⟩
  refine t_X7_lamp hR (c_isPlace hR ⟨rfl, ?_⟩)
  by_cases a1 : bR 0 4095 p = true
  rotate_left
  · rw [if_neg a1]; exact rej (fun w => a1 w.1)
  rw [if_pos a1]
  by_cases a : bR 0 60 z = true ∧ bR 1 30 u = true ∧ bR 0 (u.toInt - 1) v = true
  rotate_left
  · have r0 := rej (fun w => a ⟨w.2.1, w.2.2.1, w.2.2.2.1⟩)
    rw [bR_t, bR_t, bR_t] at a
    simp only [ti_lt, ti_le, til]
    by_cases u1 : z.toInt < 0
    · rw [if_pos u1]; exact r0
    rw [if_neg u1]
    by_cases u2 : 60 < z.toInt
    · rw [if_pos u2]; exact r0
    rw [if_neg u2]
    by_cases u3 : u.toInt < 1
    · rw [if_pos u3]; exact r0
    rw [if_neg u3]
    by_cases u4 : 30 < u.toInt
    · rw [if_pos u4]; exact r0
    rw [if_neg u4]
    by_cases u5 : v.toInt < 0
    · rw [if_pos u5]; exact r0
    rw [if_neg u5, if_pos (by omega)]; exact r0
  obtain ⟨a2, a3, a4⟩ := a
  have b2 := bR_t.mp a2
  have b3 := bR_t.mp a3
  have b4 := bR_t.mp a4
  rw [if_neg (by rw [ti_lt]; simp only [til]; omega), if_neg (by rw [ti_lt]; simp only [til]; omega), if_neg (by rw [ti_lt]; simp only [til]; omega), if_neg (by rw [ti_lt]; simp only [til]; omega), if_neg (by rw [ti_lt]; simp only [til]; omega), if_neg (by rw [ti_le]; omega)]
  refine c_full (A := fun s => zc l g (d + 3) M_X8_lamp [.ref 164, .int p, .int z, .int u, .int v] s (zKi fun r' s10 => (-1 : Int32) = r' ∧ Q s10)) hT (fun a5 => rej (fun w => w.2.2.2.2 a5)) ?_
  intro hlt
  refine c_newThing hR hT hlt ⟨rfl, by omega, ?_⟩
  obtain ⟨n1, n2, n3, n4, nE, nE2⟩ := F_lamp_n (s := s) (p := p) (z := z) (u := u) (v := v) hlt
  have hok := F_lamp_ok (s := s) (p := p) (z := z) (u := u) (v := v) hT hlt a1 a2 a3
  have hR5 := zE_K nE2 hR
  have e5 : (cT s 3 239 p z).1 64 5 = s.1 164 19 + 1 := by unfold cT; rw [zI_k (by decide), zI_eq]
  rw [e5, i32_s1]
  show zc l g (d + 3) M_X8_lamp _ (cF_lamp s p z u v) _
  refine t_X8_lamp hR5 (m_isPlace hR5 ⟨rfl, ?_⟩)
  have hne : ¬ s.1 164 19 = 12 := by
    intro w
    have : nT s.1 = 12 := by unfold nT; rw [w]; rfl
    omega
  have hv : vp_in (s.1 164 19) 12 := vin_i hT.1.1 (by have := ti_tn hT.1.1; unfold nT at hlt; omega)
  rw [e1, e2, e3 a3, if_pos a1, if_pos a2, if_pos a3, if_pos a4, n3, if_neg hne]
  refine ⟨hv, hv, ?_⟩
  have hn' : RN (mF_lamp s p z u v).1 164 19 12 := by unfold RN; rw [n2]; exact hT.1
  refine m_adds (s := mF_lamp s p z u v) (zE_K nE hR) hn' (by omega) ⟨?_, ?_, h2 _ hok.1 hok.2.1 hok.2.2.1 hok.2.2.2⟩
  · rfl
  · exact n2.symm
theorem op_flies (hR : zRok s) {k m p z v : Int32} {Q : zS → Prop} (hT : RelT s.1) (h1 : Q s) (h2 : ∀ s', zE thingS s s' → RelT s'.1 → nT s'.1 = nT s.1 + 1 → s'.1 64 10 = s.1 64 10 + 1 → Q s') :
    zc l g (d + 3) M_X7_flies [.ref 64, .int k, .int m, .int p, .int z, .int v] s (zKi fun r1 s5 => zc l g (d + 3) M_X8_flies [.ref 164, .int k, .int m, .int p, .int z, .int v] s5 (zKi fun r' s10 => r1 = r' ∧ Q s10)) := by
  have e1 : zinr z.toInt64 0 255 = bR 0 255 z := zq1 rfl rfl
  have e2 : zinr (v / 100).toInt64 0 40 = bR 0 40 (v / 100) := zq1 rfl rfl
  have e3 : zinr (v % 100).toInt64 0 40 = bR 0 40 (v % 100) := zq1 rfl rfl
  have hsp : bSpeed v = true ↔ (¬ v < 0 ∧ bR 0 40 (v / 100) = true ∧ bR 0 40 (v % 100) = true) := by
    have := ti_rng v
    unfold bSpeed
    rw [Bool.and_eq_true, Bool.and_eq_true, ti_lt, til.1, and_assoc, bR_t (x := v)]
    constructor
    · intro w; exact ⟨by omega, w.2⟩
    · intro w; exact ⟨by omega, w.2⟩
  have rej : ¬ ((k = 1 ∨ k = 4 ∨ k = 5) ∧ bSpan m = true ∧ bR 0 4095 p = true ∧ bR 0 255 z = true ∧ bSpeed v = true ∧ ¬ s.1 164 19 = 12) → zc l g (d + 3) M_X8_flies [.ref 164, .int k, .int m, .int p, .int z, .int v] s (zKi fun r' s10 => (-1 : Int32) = r' ∧ Q s10) := by
    intro w
    refine t_X8_flies hR ?_
    by_cases hk : k = 1 ∨ k = 4 ∨ k = 5
    · rcases hk with hk | hk | hk
      · rw [if_pos hk]
        refine m_areMinutes hR ⟨rfl, ?_⟩
        by_cases a1 : bSpan m = true
        · rw [if_pos a1]
          refine m_isPlace hR ⟨rfl, ?_⟩
          rw [e1, e2, e3]
          repeat' split
          all_goals first | exact ⟨rfl, h1⟩ | (exfalso; apply w; refine ⟨by simp [hk], a1, ?_, ?_, hsp.mpr ⟨?_, ?_, ?_⟩, ?_⟩ <;> assumption)
        · rw [if_neg a1]; exact ⟨rfl, h1⟩
      · rw [if_neg (by rw [hk]; decide), if_pos hk]
        refine m_areMinutes hR ⟨rfl, ?_⟩
        by_cases a1 : bSpan m = true
        · rw [if_pos a1]
          refine m_isPlace hR ⟨rfl, ?_⟩
          rw [e1, e2, e3]
          repeat' split
          all_goals first | exact ⟨rfl, h1⟩ | (exfalso; apply w; refine ⟨by simp [hk], a1, ?_, ?_, hsp.mpr ⟨?_, ?_, ?_⟩, ?_⟩ <;> assumption)
        · rw [if_neg a1]; exact ⟨rfl, h1⟩
      · rw [if_neg (by rw [hk]; decide), if_neg (by rw [hk]; decide), if_pos hk]
        refine m_areMinutes hR ⟨rfl, ?_⟩
        by_cases a1 : bSpan m = true
        · rw [if_pos a1]
          refine m_isPlace hR ⟨rfl, ?_⟩
          rw [e1, e2, e3]
          repeat' split
          all_goals first | exact ⟨rfl, h1⟩ | (exfalso; apply w; refine ⟨by simp [hk], a1, ?_, ?_, hsp.mpr ⟨?_, ?_, ?_⟩, ?_⟩ <;> assumption)
        · rw [if_neg a1]; exact ⟨rfl, h1⟩
    · rw [if_neg (fun w => hk (Or.inl w)), if_neg (fun w => hk (Or.inr (Or.inl w))), if_neg (fun w => hk (Or.inr (Or.inr w)))]
      exact ⟨rfl, h1⟩
  refine t_X7_flies hR ?_
  have acc : ∀ w : Int32, ((k = 1 ∧ w = 4) ∨ (k = 4 ∧ w = 16) ∨ (k = 5 ∧ w = 1)) → bSpan m = true → bR 0 4095 p = true → bR 0 255 z = true → bSpeed v = true → nT s.1 < 12 → (92 ≤ 92 + nT s.1 ∧ 92 + nT s.1 < 104) ∧ zc l g (d + 3) M_X8_flies [.ref 164, .int k, .int m, .int p, .int z, .int v] (cF_flies s k m p z v w) (zKi fun r' s10 => (s.1 164 19) = r' ∧ Q s10) := by
    intro w hw a1 a2 a3 a4 hlt
    refine ⟨by omega, ?_⟩
    obtain ⟨n1, n2, n3, n4, nE, nE2⟩ := F_flies_n (s := s) (k := k) (m := m) (p := p) (z := z) (v := v) (w := w) hlt
    have hok := F_flies_ok (s := s) (k := k) (m := m) (p := p) (z := z) (v := v) (w := w) hT hlt hw a1 a2 a3 a4
    have hR5 := zE_K nE2 hR
    have hne : ¬ s.1 164 19 = 12 := by
      intro w
      have : nT s.1 = 12 := by unfold nT; rw [w]; rfl
      omega
    have hv : vp_in (s.1 164 19) 12 := vin_i hT.1.1 (by have := ti_tn hT.1.1; unfold nT at hlt; omega)
    have hn' : RN (mF_flies s k m p z v w).1 164 19 12 := by unfold RN; rw [n2]; exact hT.1
    have b4 := hsp.mp a4
    refine t_X8_flies hR5 ?_
    rcases hw with ⟨hk, -⟩ | ⟨hk, -⟩ | ⟨hk, -⟩
    · rw [if_pos hk]
      refine m_areMinutes hR5 ⟨rfl, ?_⟩
      rw [if_pos a1]
      refine m_isPlace hR5 ⟨rfl, ?_⟩
      rw [e1, e2, e3, if_pos a2, if_pos a3, if_neg b4.1, if_pos b4.2.1, if_pos b4.2.2, n3, if_neg hne]
      refine ⟨hv, hv, ?_⟩
      exact m_adds (s := mF_flies s k m p z v w) (zE_K nE hR) hn' (by omega) ⟨rfl, n2.symm, h2 _ hok.1 hok.2.1 hok.2.2.1 hok.2.2.2⟩
    · rw [if_neg (by rw [hk]; decide), if_pos hk]
      refine m_areMinutes hR5 ⟨rfl, ?_⟩
      rw [if_pos a1]
      refine m_isPlace hR5 ⟨rfl, ?_⟩
      rw [e1, e2, e3, if_pos a2, if_pos a3, if_neg b4.1, if_pos b4.2.1, if_pos b4.2.2, n3, if_neg hne]
      refine ⟨hv, hv, ?_⟩
      exact m_adds (s := mF_flies s k m p z v w) (zE_K nE hR) hn' (by omega) ⟨rfl, n2.symm, h2 _ hok.1 hok.2.1 hok.2.2.1 hok.2.2.2⟩
    · rw [if_neg (by rw [hk]; decide), if_neg (by rw [hk]; decide), if_pos hk]
      refine m_areMinutes hR5 ⟨rfl, ?_⟩
      rw [if_pos a1]
      refine m_isPlace hR5 ⟨rfl, ?_⟩
      rw [e1, e2, e3, if_pos a2, if_pos a3, if_neg b4.1, if_pos b4.2.1, if_pos b4.2.2, n3, if_neg hne]
      refine ⟨hv, hv, ?_⟩
      exact m_adds (s := mF_flies s k m p z v w) (zE_K nE hR) hn' (by omega) ⟨rfl, n2.symm, h2 _ hok.1 hok.2.1 hok.2.2.1 hok.2.2.2⟩
  have cl : ∀ w : Int32, ((k = 1 ∧ w = 4) ∨ (k = 4 ∧ w = 16) ∨ (k = 5 ∧ w = 1)) → zc l g (d + 2) M_X7_divisorOf [.int k] s (zKi _) := fun w hw => t_X7_divisorOf hR (K := fun r s1 => r = w ∧ s1 = s) (by
    rcases hw with ⟨hk, e⟩ | ⟨hk, e⟩ | ⟨hk, e⟩
    · rw [if_pos hk]; exact ⟨e.symm, rfl⟩
    · rw [if_neg (by rw [hk]; decide), if_neg (by rw [hk]; decide), if_neg (by rw [hk]; decide), if_pos hk]; exact ⟨e.symm, rfl⟩
    · rw [if_neg (by rw [hk]; decide), if_neg (by rw [hk]; decide), if_neg (by rw [hk]; decide), if_neg (by rw [hk]; decide), if_pos hk]; exact ⟨e.symm, rfl⟩)
  by_cases hk : k = 1 ∨ k = 4 ∨ k = 5
  rotate_left
  · have r0 := rej (fun w => hk w.1)
    refine t_X7_divisorOf hR ?_
    rw [if_neg (fun w => hk (Or.inl w)), if_neg (c := k = 4) (fun w => hk (Or.inr (Or.inl w))), if_neg (c := k = 5) (fun w => hk (Or.inr (Or.inr w)))]
    by_cases k2 : k = 2
    · rw [if_pos k2]; exact ⟨rfl, by rw [if_pos rfl]; exact r0⟩
    · rw [if_neg k2]
      by_cases k3 : k = 3
      · rw [if_pos k3]; exact ⟨rfl, by rw [if_pos rfl]; exact r0⟩
      · rw [if_neg k3]; exact ⟨rfl, by rw [if_pos rfl]; exact r0⟩
  have ⟨w, hw⟩ : ∃ w : Int32, (k = 1 ∧ w = 4) ∨ (k = 4 ∧ w = 16) ∨ (k = 5 ∧ w = 1) := by
    rcases hk with h | h | h
    · exact ⟨4, Or.inl ⟨h, rfl⟩⟩
    · exact ⟨16, Or.inr (Or.inl ⟨h, rfl⟩)⟩
    · exact ⟨1, Or.inr (Or.inr ⟨h, rfl⟩)⟩
  refine zc_mono (cl w hw) ?_
  rintro vv s1 ⟨r, er, ew, es⟩
  subst ew
  refine ⟨r, er, by rw [es], ?_⟩
  rw [es]
  rw [if_neg (by rcases hw with ⟨-, e⟩ | ⟨-, e⟩ | ⟨-, e⟩ <;> rw [e] <;> decide)]
  refine c_isSpan hR ⟨rfl, ?_⟩
  by_cases a1 : bSpan m = true
  rotate_left
  · rw [if_neg a1]; exact rej (fun w => a1 w.2.1)
  rw [if_pos a1]
  refine c_isPlace hR ⟨rfl, ?_⟩
  by_cases a2 : bR 0 4095 p = true
  rotate_left
  · rw [if_neg a2]; exact rej (fun w => a2 w.2.2.1)
  rw [if_pos a2]
  refine c_isHeight hR ⟨rfl, ?_⟩
  by_cases a3 : bR 0 255 z = true
  rotate_left
  · rw [if_neg a3]; exact rej (fun w => a3 w.2.2.2.1)
  rw [if_pos a3]
  refine c_isSpeed hR ⟨rfl, ?_⟩
  by_cases a4 : bSpeed v = true
  rotate_left
  · rw [if_neg a4]; exact rej (fun w => a4 w.2.2.2.2.1)
  rw [if_pos a4]
  refine c_full (A := fun s => zc l g (d + 3) M_X8_flies [.ref 164, .int k, .int m, .int p, .int z, .int v] s (zKi fun r' s10 => (-1 : Int32) = r' ∧ Q s10)) hT (fun a5 => rej (fun w => w.2.2.2.2.2 a5)) ?_
  intro hlt
  obtain ⟨c1, c2⟩ := acc r hw a1 a2 a3 a4 hlt
  refine c_newThing hR hT hlt ⟨rfl, c1, ?_⟩
  have e5 : (cT s k m p z).1 64 5 = s.1 164 19 + 1 := by unfold cT; rw [zI_k (by decide), zI_eq]
  rw [e5, i32_s1]
  exact c2
end OT3
