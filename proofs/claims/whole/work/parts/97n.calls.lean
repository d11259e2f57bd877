/-! ===== each call, with all that holds ===== -/
def opI (l : Launch) (g : zG) (d : Nat) (M7 M8 : zM) (as : List Value) (s : zS) (n : Nat) : Prop := zc l g d M7 (.ref 64 :: as) s (zKi fun r s5 => zc l g d M8 (.ref 164 :: as) s5 (zKi fun r' s10 => r = r' ∧ Rel n s10))
def opZ (l : Launch) (g : zG) (d : Nat) (M7 M8 : zM) (as : List Value) (s : zS) (n : Nat) : Prop := zc l g d M7 (.ref 64 :: as) s (zKz fun r s5 => zc l g d M8 (.ref 164 :: as) s5 (zKz fun r' s10 => r = r' ∧ Rel n s10))
section RC
variable {l : Launch} {g : zG} {d : Nat} {s : zS} {n : Nat} {p q u v w : Int32}
theorem R_hill (h : Rel n s) (hn : n < 2000000000) : opI l g (d + 60) M_X7_hill M_X8_hill [.int p, .int q, .int u] s (n + 1) :=
  op_hill (d := d + 58) h.1.1 h.1.2.1 (Rel_up h) (fun _ hE hH e10 => Rel_hill h hn hE hH e10)
theorem R_seer (h : Rel n s) : opI l g (d + 60) M_X7_seer M_X8_seer [.int p] s (n + 1) :=
  op_seer (d := d + 58) h.1.1 h.1.2.2.2.2.1 (Rel_up h) (fun _ hE hS e ho => Rel_seer h hE hS e ho)
theorem R_star (h : Rel n s) (hn : n < 2000000000) : opI l g (d + 60) M_X7_star M_X8_star [.int p, .int q, .int u] s (n + 1) :=
  op_star (d := d + 58) h.1.1 h.1.2.2.2.1 (Rel_up h) (fun _ hE hT _ e10 => Rel_thing h hn hE hT e10)
theorem R_flies (h : Rel n s) (hn : n < 2000000000) : opI l g (d + 60) M_X7_flies M_X8_flies [.int p, .int q, .int u, .int v, .int w] s (n + 1) :=
  op_flies (d := d + 57) h.1.1 h.1.2.2.2.1 (Rel_up h) (fun _ hE hT _ e10 => Rel_thing h hn hE hT e10)
theorem R_flare (h : Rel n s) (hn : n < 2000000000) : opI l g (d + 60) M_X7_flare M_X8_flare [.int p, .int q, .int u, .int v] s (n + 1) :=
  op_flare (d := d + 57) h.1.1 h.1.2.2.2.1 (Rel_up h) (fun _ hE hT _ e10 => Rel_thing h hn hE hT e10)
theorem R_lamp (h : Rel n s) (hn : n < 2000000000) : opI l g (d + 60) M_X7_lamp M_X8_lamp [.int p, .int q, .int u, .int v] s (n + 1) :=
  op_lamp (d := d + 57) h.1.1 h.1.2.2.2.1 (Rel_up h) (fun _ hE hT _ e10 => Rel_thing h hn hE hT e10)
theorem R_ground (h : Rel n s) : opI l g (d + 60) M_X7_ground M_X8_ground [.int p] s (n + 1) :=
  op_ground (d := d + 57) h.1.1 h.1.2.1 (Rel_up h)
theorem R_at (h : Rel n s) : opI l g (d + 60) M_X7_at M_X8_at [.int p, .int q, .int u] s (n + 1) :=
  op_at (d := d + 56) h.1.1 h.1.2.1 h.1.2.2.2.1 (fun _ hE => Rel_l h (fun o j w => by unfold atS at w; unfold gSc; omega) (fun o j w => by unfold atS at w; omega) hE)
theorem R_seen (h : Rel n s) : opI l g (d + 60) M_X7_seen M_X8_seen [.int p, .int q, .int u, .int v] s (n + 1) :=
  op_seen (d := d + 54) h.1.1 h.1.2.1 h.1.2.2.2.1 h.1.2.2.2.2.1 (fun _ hE => Rel_l h (fun o j w => by unfold lkS at w; unfold gSc; omega) (fun o j w => by unfold lkS at w; omega) hE)
theorem R_tell (h : Rel n s) : opI l g (d + 60) M_X7_tell M_X8_tell [.int p, .int q, .int u, .int v, .int w] s (n + 1) := by
  refine op_tell (d := d + 57) h.1.1 h.1.2.2.2.2.1 h.1.2.2.2.2.2.1 (Rel_up h) (fun s' hE hL hlt e r10 r13 hr => ?_)
  refine Rel_tl (k0 := nK s.1) h (Nat.le_refl _) ⟨by rw [hE.1], fun o j q => ?_⟩ hL (fun k hk => ?_)
  · by_cases c : tellS o j
    · unfold tlS lkS at q
      unfold tellS at c
      by_cases c1 : 104 ≤ o ∧ o < 164
      · have := (hr (o - 104) (by omega) (by omega) j).1
        rwa [show 104 + (o - 104) = o by omega] at this
      · by_cases c2 : 183 ≤ o ∧ o < 243
        · have := (hr (o - 183) (by omega) (by omega) j).2
          rwa [show 183 + (o - 183) = o by omega] at this
        · exfalso; omega
    · exact hE.2 o j c
  · rw [e] at hk
    by_cases c : k = nK s.1
    · rw [c]; exact Or.inr ⟨r10, r13⟩
    · exact Or.inl (by omega)
theorem R_undo (h : Rel n s) : opI l g (d + 60) M_X7_undo M_X8_undo [] s (n + 1) := by
  refine op_undo (d := d + 60) h.1.1 h.1.2.2.2.2.2.1 (Rel_up h) (fun s' hE hL hlt hr => ?_)
  have h60 := (Core_c7 h.1).2.2
  refine Rel_tl (k0 := nK s'.1) h (by omega) ⟨by rw [hE.1], fun o j q => ?_⟩ hL (fun k hk => Or.inl hk)
  by_cases c : tellS o j
  · unfold tlS lkS at q
    unfold tellS at c
    by_cases c1 : 104 ≤ o ∧ o < 164
    · have := (hr (o - 104) j (by omega)).1
      rwa [show 104 + (o - 104) = o by omega] at this
    · by_cases c2 : 183 ≤ o ∧ o < 243
      · have := (hr (o - 183) j (by omega)).2
        rwa [show 183 + (o - 183) = o by omega] at this
      · exfalso; omega
  · exact hE.2 o j c
theorem R_off (h : Rel n s) (hn : n < 2000000000) : opZ l g (d + 60) M_X7_off M_X8_off [.int p, .int q] s (n + 1) :=
  op_off (d := d + 59) h.1.1 (Rel_up h) (fun _ hE hO e10 => Rel_off h hn hE hO e10)
theorem R_telling (h : Rel n s) : opI l g (d + 60) M_X7_telling M_X8_telling [.int p, .int q] s (n + 1) :=
  op_telling (d := d + 58) h.1.1 h.1.2.2.2.2.2.1 (Rel_up h)
theorem Rel_f {s' : zS} (h : Rel n s) (hE : zE fS s s') (hC : Core s') : Rel (n + 1) s' := Rel_g h okS_f.2 hE hC (RelA_f hE h.1 h.2.2.2.1)
theorem R_fits (h : Rel n s) : opI l g (d + 60) M_X7_fits M_X8_fits [.int p, .int q] s (n + 1) :=
  op_fits (d := d + 52) h.1 (fun _ hE hC => Rel_f h hE hC)
theorem R_left (h : Rel n s) : opI l g (d + 60) M_X7_left M_X8_left [.int p] s (n + 1) :=
  op_left (d := d + 52) h.1 (fun _ hE hC => Rel_f h hE hC)
theorem R_fewest (h : Rel n s) : opI l g (d + 60) M_X7_fewest M_X8_fewest [] s (n + 1) :=
  op_fewest (d := d + 52) h.1 (fun _ hE hC => Rel_g h (fun o j w => by unfold fwS fS at w; unfold gSc; omega) hE hC (RelA_g (fun o j w => by unfold fwS fS at w; unfold gSc; omega) (fun o j w => by unfold fwS fS at w; omega) hE h.1 h.2.2.2.1))
theorem R_joined (h : Rel n s) : opI l g (d + 60) M_X7_joined M_X8_joined [.int p, .int q] s (n + 1) :=
  op_joined (d := d + 52) h.1 (fun _ hE hC => Rel_f h hE hC)
theorem R_cross (h : Rel n s) : opI l g (d + 60) M_X7_cross M_X8_cross [.int p, .int q, .int u] s (n + 1) :=
  op_cross (d := d + 54) h.1 (fun _ hE hC => Rel_g h w74_g hE hC (RelA_g w74_g (fun o j w => by unfold w74 at w; omega) hE h.1 h.2.2.2.1))
theorem R_out (h : Rel n s) : opI l g (d + 60) M_X7_out M_X8_out [.int p, .int q] s (n + 1) :=
  op_out (d := d + 54) h.1 (fun _ hE hC => Rel_f h hE hC)
theorem R_outs (h : Rel n s) : opI l g (d + 60) M_X7_outs M_X8_outs [.int p, .int q, .int u, .int v] s (n + 1) :=
  op_outs (d := d + 54) h.1 (Rel_up h)
theorem R_size (h : Rel n s) : opI l g (d + 60) M_X7_size M_X8_size [.int p, .int q, .int u, .int v] s (n + 1) :=
  op_size (d := d + 56) h.1 (fun _ hE hC => Rel_f h hE hC)
theorem R_hulls (h : Rel n s) : opI l g (d + 60) M_X7_hulls M_X8_hulls [.int p, .int q] s (n + 1) :=
  op_hulls (d := d + 52) h.1 (fun _ hE hC => Rel_f h hE hC)
theorem R_ask (h : Rel n s) : opI l g (d + 60) M_X7_ask M_X8_ask [.int p] s (n + 1) :=
  op_ask (d := d + 52) h.1 h.2.2.2.1 (fun _ hE hC hA => Rel_g h okS_ak.2 hE hC hA)
theorem Rel_feed {s' : zS} (h : Rel n s) (hE : zE feedS s s') (hX : RelX s'.1) : Rel (n + 1) s' :=
  Rel_x h (zE_K hE h.1.1) (fun o j w => hE.2 o j (by unfold cS at w; unfold feedS; omega)) hX (RelQ_c hE (fun p k w => by unfold feedS at w; unfold rqS; have := h.1.1.2; omega) h.2.2.1) (by rw [hE.1])
theorem R_feed (h : Rel n s) : opI l g (d + 60) M_X7_feed M_X8_feed [.int p, .int q, .int u, .int v, .int w] s (n + 1) :=
  op_feed (d := d + 59) h.1.1 h.2.1 (Rel_up h) (fun _ hE hX => Rel_feed h hE hX)
theorem R_end (h : Rel n s) : opZ l g (d + 60) M_X7_end M_X8_end [.int p] s (n + 1) :=
  op_end (d := d + 59) h.1.1 h.2.1 (Rel_up h) (fun _ hE hX => Rel_feed h hE hX)
theorem Rel_ft {s' : zS} (h : Rel n s) (hE : zE (ftS (s.2.2.1 64 16)) s s') : Rel (n + 1) s' := by
  have hp := rp_or h.1.1
  refine Rel_x h (zE_K hE h.1.1) (fun o j w => hE.2 o j (by unfold cS at w; unfold ftS jdS mlS rdS; omega)) ?_ (RelQ_ft h.1.1 hE h.2.2.1) (by rw [hE.1])
  exact RelX_c (fun k => hE.2 _ _ (by unfold ftS jdS mlS rdS; omega)) (fun k => hE.2 _ _ (by unfold ftS jdS mlS rdS; omega)) (hE.2 _ _ (by unfold ftS jdS mlS rdS; omega)) (hE.2 _ _ (by unfold ftS jdS mlS rdS; omega)) h.2.1
theorem R_fault (h : Rel n s) : opI l g (d + 60) M_X7_fault M_X8_fault [] s (n + 1) :=
  op_fault (d := d + 20) h.1.1 h.2.1 (fun _ hE => Rel_ft h hE)
theorem R_rules (h : Rel n s) : opI l g (d + 60) M_X7_rules M_X8_rules [] s (n + 1) :=
  op_rules (d := d + 20) h.1.1 h.2.1 (fun _ hE => Rel_ft h hE) (fun _ hE hQ hX => Rel_x h hE.2.2.1 (fun o j w => hE.2.2.2 o j (by unfold cS at w; unfold rlS; omega)) hX hQ hE.2.1)
theorem R_office (h : Rel n s) : opI l g (d + 60) M_X7_office M_X8_office [.int p, .int q, .int u, .int v] s (n + 1) :=
  op_office (d := d + 51) h.1 h.2.2.1 (fun _ hE hC => Rel_g h okS_o.2 hE hC (RelA_g okS_o.2 (fun o j w => by unfold ofS fS at w; omega) hE h.1 h.2.2.2.1))
theorem Rel_5 {s' : zS} (h : Rel n s) (hE : zE qS5 s s') : Rel (n + 1) s' := Rel_l h (fun o j w => by unfold qS5 at w; unfold gSc; omega) (fun o j w => by unfold qS5 at w; omega) hE
theorem R_grown (h : Rel n s) : opI l g (d + 60) M_X7_grown M_X8_grown [.int p, .int q, .int u, .int v] s (n + 1) :=
  op_grown (d := d + 55) h.1.1 h.2.2.1 (fun _ hE => Rel_5 h hE)
theorem R_before (h : Rel n s) : opI l g (d + 60) M_X7_before M_X8_before [.int p, .int q, .int u, .int v] s (n + 1) :=
  op_before (d := d + 55) h.1.1 h.2.2.1 (fun _ hE => Rel_5 h hE)
theorem R_draw (h : Rel n s) : opI l g (d + 60) M_X7_draw M_X8_draw [.int p, .int q] s (n + 1) :=
  op_draw (d := d + 54) h.1 (Rel_up h) (fun s' hE hL hle hk => Rel_tl (k0 := nK s.1) h (Nat.le_refl _) hE hL (fun k hkk => by
    by_cases c : k < nK s.1
    · exact Or.inl c
    · exact Or.inr (hk k (by omega) hkk)))
theorem R_count (h : Rel n s) : opI l g (d + 60) M_X7_count M_X8_count [.int p] s (n + 1) := by
  obtain ⟨q, -, -, h3, h4⟩ := h.2.2.1
  exact op_count (d := d + 60) h.1 h.2.1 rfl (rn_or h.1.1) (by rw [h3.2.2.1, h4.2.2.1]) (Rel_up h)
end RC
