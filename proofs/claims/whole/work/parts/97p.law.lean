/-! ===== the law's loop over the script ===== -/
section LW
variable {l : Launch} {g : zG} {d : Nat} {s : zS} {n : Nat} {M7 M8 : zM} {as : List Value}
theorem lawI {A B : zS → Prop} {W : Int32 → zS → Prop} (h : opI l g d M7 M8 as s n) (hW : ∀ r s5, zc l g d M8 (.ref 164 :: as) s5 (zKi fun r' s10 => if r = r' then A s10 else B s10) → W r s5) (hA : ∀ s', Rel n s' → A s') : zc l g d M7 (.ref 64 :: as) s (zKi W) := by
  refine zc_mono h ?_
  rintro v σ ⟨r, e, hz⟩
  refine ⟨r, e, hW r σ (zc_mono hz ?_)⟩
  rintro v' σ' ⟨r', e', er, hr⟩
  refine ⟨r', e', ?_⟩
  show if r = r' then A σ' else B σ'
  rw [if_pos er]
  exact hA σ' hr
theorem lawZ {A B : zS → Prop} {W : Bool → zS → Prop} (h : opZ l g d M7 M8 as s n) (hW : ∀ r s5, zc l g d M8 (.ref 164 :: as) s5 (zKz fun r' s10 => if zb r = zb r' then A s10 else B s10) → W r s5) (hA : ∀ s', Rel n s' → A s') : zc l g d M7 (.ref 64 :: as) s (zKz W) := by
  refine zc_mono h ?_
  rintro v σ ⟨r, e, hz⟩
  refine ⟨r, e, hW r σ (zc_mono hz ?_)⟩
  rintro v' σ' ⟨r', e', er, hr⟩
  refine ⟨r', e', ?_⟩
  show if zb r = zb r' then A σ' else B σ'
  rw [if_pos (by rw [er])]
  exact hA σ' hr
set_option maxHeartbeats 4000000 in
set_option maxRecDepth 100000 in
theorem law_loop (hL : g.2.2.2.2.1 ≤ 3072) : ∀ m c s, 3072 < 6 * (c + m) → c ≤ 600 → Rel c s → zAt l g (d + 61) 0 200 M_L_law 18 [.ref 1, .ref 64, .ref 164, .int (nI (6 * c))] [] s (zKz (fun b _ => b = true)) := by
  have e6 : (6 : Int32).toInt = 6 := rfl
  intro m
  induction m with
  | zero =>
    intro c s h3 h6 hr
    have eL : (Int32.ofNat g.2.2.2.2.1).toInt = g.2.2.2.2.1 := nI_toInt (by omega)
    refine t_L_law_18 (d := d + 60) hr.1.1 hr.2.2.2.2.1 ?_
    rw [if_pos (by rw [ti_lt, ti_sub (by rw [eL, e6]; omega) (by rw [eL, e6]; omega), eL, e6, nI_toInt (by omega)]; omega)]
  | succ m ih =>
    intro c s h3 h6 hr
    have eL : (Int32.ofNat g.2.2.2.2.1).toInt = g.2.2.2.2.1 := nI_toInt (by omega)
    refine t_L_law_18 (d := d + 60) hr.1.1 hr.2.2.2.2.1 ?_
    by_cases c0 : Int32.ofNat g.2.2.2.2.1 - 6 < nI (6 * c)
    · rw [if_pos c0]
    rw [if_neg c0]
    rw [ti_lt, ti_sub (by rw [eL, e6]; omega) (by rw [eL, e6]; omega), eL, e6, nI_toInt (by omega)] at c0
    have hc : 6 * c + 6 ≤ g.2.2.2.2.1 := by omega
    have hn : c < 2000000000 := by omega
    have ev : ∀ j : Nat, j < 6 → ∀ x : Int32, x = nI j → vp_in (nI (6 * c) + x) g.2.2.2.2.1 := by
      intro j hj x ex
      have e : nI (6 * c) + x = nI (6 * c + j) := by rw [ex, ti_eq, ti_add (by rw [nI_toInt (by omega), nI_toInt (by omega)]; omega) (by rw [nI_toInt (by omega), nI_toInt (by omega)]; omega), nI_toInt (by omega), nI_toInt (by omega), nI_toInt (by omega)]; omega
      rw [e]
      exact vp_in_nI (by omega) (by omega)
    have v1 := ev 1 (by decide) 1 rfl
    have v2 := ev 2 (by decide) 2 rfl
    have v3 := ev 3 (by decide) 3 rfl
    have v4 := ev 4 (by decide) 4 rfl
    have v5 := ev 5 (by decide) 5 rfl
    have e66 : nI (6 * c) + 6 = nI (6 * (c + 1)) := by rw [ti_eq, ti_add (by rw [nI_toInt (by omega), e6]; omega) (by rw [nI_toInt (by omega), e6]; omega), nI_toInt (by omega), nI_toInt (by omega), e6]; omega
    have nx : ∀ s', Rel (c + 1) s' → zAt l g (d + 61) 0 200 M_L_law 18 [.ref 1, .ref 64, .ref 164, .int (nI (6 * c) + 6)] [] s' (zKz (fun b _ => b = true)) := by
      intro s' h'
      rw [e66]
      exact ih (c + 1) s' (by omega) (by omega) h'
    refine ⟨vp_in_nI (by omega) (by omega), ?_⟩
    clear ev c0 eL e66 ih
    generalize g.2.2.2.2.2 (nI (6 * c)).toNatClampNeg &&& 31 = op
    by_cases k0 : op = 0
    · rw [if_pos k0]
      refine ⟨v1, v2, v3, ?_⟩
      exact lawI (R_hill (d := d) hr hn) (fun _ _ hz => ⟨v1, v2, v3, hz⟩) nx
    rw [if_neg k0]
    by_cases k1 : op = 1
    · rw [if_pos k1]
      refine ⟨v1, ?_⟩
      exact lawI (R_seer (d := d) hr) (fun _ _ hz => ⟨v1, hz⟩) nx
    rw [if_neg k1]
    by_cases k2 : op = 2
    · rw [if_pos k2]
      refine ⟨v1, v2, v3, ?_⟩
      exact lawI (R_star (d := d) hr hn) (fun _ _ hz => ⟨v1, v2, v3, hz⟩) nx
    rw [if_neg k2]
    by_cases k3 : op = 3
    · rw [if_pos k3]
      refine ⟨v1, v2, v3, v4, v5, ?_⟩
      exact lawI (R_flies (d := d) hr hn) (fun _ _ hz => ⟨v1, v2, v3, v4, v5, hz⟩) nx
    rw [if_neg k3]
    by_cases k4 : op = 4
    · rw [if_pos k4]
      refine ⟨v1, v2, v3, v4, ?_⟩
      exact lawI (R_flare (d := d) hr hn) (fun _ _ hz => ⟨v1, v2, v3, v4, hz⟩) nx
    rw [if_neg k4]
    by_cases k5 : op = 5
    · rw [if_pos k5]
      refine ⟨v1, v2, v3, v4, ?_⟩
      exact lawI (R_lamp (d := d) hr hn) (fun _ _ hz => ⟨v1, v2, v3, v4, hz⟩) nx
    rw [if_neg k5]
    by_cases k6 : op = 6
    · rw [if_pos k6]
      refine ⟨v1, ?_⟩
      exact lawI (R_ground (d := d) hr) (fun _ _ hz => ⟨v1, hz⟩) nx
    rw [if_neg k6]
    by_cases k7 : op = 7
    · rw [if_pos k7]
      refine ⟨v1, v2, v3, ?_⟩
      exact lawI (R_at (d := d) hr) (fun _ _ hz => ⟨v1, v2, v3, hz⟩) nx
    rw [if_neg k7]
    by_cases k8 : op = 8
    · rw [if_pos k8]
      refine ⟨v1, v2, v3, v4, ?_⟩
      exact lawI (R_seen (d := d) hr) (fun _ _ hz => ⟨v1, v2, v3, v4, hz⟩) nx
    rw [if_neg k8]
    by_cases k9 : op = 9
    · rw [if_pos k9]
      refine ⟨v1, v2, v3, v4, v5, ?_⟩
      exact lawI (R_tell (d := d) hr) (fun _ _ hz => ⟨v1, v2, v3, v4, v5, hz⟩) nx
    rw [if_neg k9]
    by_cases k10 : op = 10
    · rw [if_pos k10]
      exact lawI (R_undo (d := d) hr) (fun _ _ hz => hz) nx
    rw [if_neg k10]
    by_cases k11 : op = 11
    · rw [if_pos k11]
      refine ⟨v1, v2, ?_⟩
      exact lawZ (R_off (d := d) hr hn) (fun _ _ hz => ⟨v1, v2, hz⟩) nx
    rw [if_neg k11]
    by_cases k12 : op = 12
    · rw [if_pos k12]
      refine ⟨v1, v2, ?_⟩
      exact lawI (R_telling (d := d) hr) (fun _ _ hz => ⟨v1, v2, hz⟩) nx
    rw [if_neg k12]
    by_cases k13 : op = 13
    · rw [if_pos k13]
      refine ⟨v1, v2, ?_⟩
      exact lawI (R_fits (d := d) hr) (fun _ _ hz => ⟨v1, v2, hz⟩) nx
    rw [if_neg k13]
    by_cases k14 : op = 14
    · rw [if_pos k14]
      refine ⟨v1, ?_⟩
      exact lawI (R_left (d := d) hr) (fun _ _ hz => ⟨v1, hz⟩) nx
    rw [if_neg k14]
    by_cases k15 : op = 15
    · rw [if_pos k15]
      exact lawI (R_fewest (d := d) hr) (fun _ _ hz => hz) nx
    rw [if_neg k15]
    by_cases k16 : op = 16
    · rw [if_pos k16]
      refine ⟨v1, v2, ?_⟩
      exact lawI (R_joined (d := d) hr) (fun _ _ hz => ⟨v1, v2, hz⟩) nx
    rw [if_neg k16]
    by_cases k17 : op = 17
    · rw [if_pos k17]
      refine ⟨v1, v2, v3, ?_⟩
      exact lawI (R_cross (d := d) hr) (fun _ _ hz => ⟨v1, v2, v3, hz⟩) nx
    rw [if_neg k17]
    by_cases k18 : op = 18
    · rw [if_pos k18]
      refine ⟨v1, v2, ?_⟩
      exact lawI (R_out (d := d) hr) (fun _ _ hz => ⟨v1, v2, hz⟩) nx
    rw [if_neg k18]
    by_cases k19 : op = 19
    · rw [if_pos k19]
      refine ⟨v1, v2, v3, v4, ?_⟩
      exact lawI (R_outs (d := d) hr) (fun _ _ hz => ⟨v1, v2, v3, v4, hz⟩) nx
    rw [if_neg k19]
    by_cases k20 : op = 20
    · rw [if_pos k20]
      refine ⟨v1, v2, v3, v4, ?_⟩
      exact lawI (R_size (d := d) hr) (fun _ _ hz => ⟨v1, v2, v3, v4, hz⟩) nx
    rw [if_neg k20]
    by_cases k21 : op = 21
    · rw [if_pos k21]
      refine ⟨v1, v2, ?_⟩
      exact lawI (R_hulls (d := d) hr) (fun _ _ hz => ⟨v1, v2, hz⟩) nx
    rw [if_neg k21]
    by_cases k22 : op = 22
    · rw [if_pos k22]
      refine ⟨v1, ?_⟩
      exact lawI (R_ask (d := d) hr) (fun _ _ hz => ⟨v1, hz⟩) nx
    rw [if_neg k22]
    by_cases k23 : op = 23
    · rw [if_pos k23]
      refine ⟨v1, v2, v3, v4, v5, ?_⟩
      exact lawI (R_feed (d := d) hr) (fun _ _ hz => ⟨v1, v2, v3, v4, v5, hz⟩) nx
    rw [if_neg k23]
    by_cases k24 : op = 24
    · rw [if_pos k24]
      refine ⟨v1, ?_⟩
      exact lawZ (R_end (d := d) hr) (fun _ _ hz => ⟨v1, hz⟩) nx
    rw [if_neg k24]
    by_cases k25 : op = 25
    · rw [if_pos k25]
      exact lawI (R_fault (d := d) hr) (fun _ _ hz => hz) nx
    rw [if_neg k25]
    by_cases k26 : op = 26
    · rw [if_pos k26]
      exact lawI (R_rules (d := d) hr) (fun _ _ hz => hz) nx
    rw [if_neg k26]
    by_cases k27 : op = 27
    · rw [if_pos k27]
      refine ⟨v1, v2, v3, v4, ?_⟩
      exact lawI (R_office (d := d) hr) (fun _ _ hz => ⟨v1, v2, v3, v4, hz⟩) nx
    rw [if_neg k27]
    by_cases k28 : op = 28
    · rw [if_pos k28]
      refine ⟨v1, v2, v3, v4, ?_⟩
      exact lawI (R_grown (d := d) hr) (fun _ _ hz => ⟨v1, v2, v3, v4, hz⟩) nx
    rw [if_neg k28]
    by_cases k29 : op = 29
    · rw [if_pos k29]
      refine ⟨v1, v2, v3, v4, ?_⟩
      exact lawI (R_before (d := d) hr) (fun _ _ hz => ⟨v1, v2, v3, v4, hz⟩) nx
    rw [if_neg k29]
    by_cases k30 : op = 30
    · rw [if_pos k30]
      refine ⟨v1, v2, ?_⟩
      exact lawI (R_draw (d := d) hr) (fun _ _ hz => ⟨v1, v2, hz⟩) nx
    rw [if_neg k30]
    by_cases k31 : op = 31
    · rw [if_pos k31]
      refine ⟨v1, ?_⟩
      exact lawI (R_count (d := d) hr) (fun _ _ hz => ⟨v1, hz⟩) nx
    rw [if_neg k31]
    exact nx s (Rel_up hr)
end LW
theorem law_all (l : Launch) (g : zG) (hL : g.2.2.2.2.1 ≤ 3072) : zAt l g 400 0 200 M_L_law 0 [.ref 1, zJ, zJ, zJ] [] zS0 (zKz (fun b _ => b = true)) :=
  law_start (d := 396) (law_loop (d := 339) hL 600 0 s00 (by decide) (by decide) Rel_0)
