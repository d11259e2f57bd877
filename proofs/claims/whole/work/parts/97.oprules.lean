/-! ===== rules: fault, rules ===== -/
def rqC (o : Nat) (I : zM2) (q : rQ) : Prop := (∀ i, i < q.1.length → I (o + 1) i = q.1.getD i 0) ∧ clq o I q
def grN (I : zM2) : Option (Nat × Nat) → Prop
  | none => I 259 0 = 0
  | some p => I 259 0 = 1 ∧ I 249 12 = nI p.1 ∧ I 252 12 = nI (p.2 - p.1)
def rqM (I : zM2) (q : rQ) : Prop := (∀ i, i < q.1.length → I 246 i = (q.1.map mu).getD i 0) ∧ grN I q.2.1 ∧ I 257 0 = nI q.2.2.length ∧ ∀ i, i < q.2.2.length → I 255 i = (q.2.2.getD i (0, 0, 0)).1 ∧ I 249 i = nI (q.2.2.getD i (0, 0, 0)).2.1 ∧ I 252 i = nI ((q.2.2.getD i (0, 0, 0)).2.2 - (q.2.2.getD i (0, 0, 0)).2.1)
def RelQ (s : zS) : Prop := ∃ q, wfQ q ∧ q.1.length ≤ 400 ∧ rqC (s.2.2.1 64 15) s.1 q ∧ rqM s.1 q
theorem rn_or {s : zS} (hR : zRok s) : s.2.2.1 64 15 = 79 ∨ s.2.2.1 64 15 = 85 := by
  rcases hR.2 with h | h
  · exact Or.inl h.1
  · exact Or.inr h.1
theorem rp_or {s : zS} (hR : zRok s) : s.2.2.1 64 16 = 79 ∨ s.2.2.1 64 16 = 85 := by
  rcases hR.2 with h | h
  · exact Or.inr h.2
  · exact Or.inl h.2
theorem rqC_c {o : Nat} {I I' : zM2} {q : rQ} (h : ∀ k, I' o k = I o k) (h1 : ∀ k, I' (o + 1) k = I (o + 1) k) (h2 : ∀ k, I' (o + 2) k = I (o + 2) k) (h3 : ∀ k, I' (o + 3) k = I (o + 3) k) (h4 : ∀ k, I' (o + 4) k = I (o + 4) k) (hq : rqC o I q) : rqC o I' q :=
  ⟨fun i hi => by rw [h1]; exact hq.1 i hi, clq_c (fun k _ => h k) h2 h3 h4 hq.2⟩
theorem grN_c {I I' : zM2} {w : Option (Nat × Nat)} (h1 : I' 259 0 = I 259 0) (h2 : I' 249 12 = I 249 12) (h3 : I' 252 12 = I 252 12) (h : grN I w) : grN I' w := by
  cases w with
  | none => unfold grN at *; rw [h1]; exact h
  | some p => unfold grN at *; rw [h1, h2, h3]; exact h
theorem rqM_c {I I' : zM2} {q : rQ} (h246 : ∀ k, I' 246 k = I 246 k) (h249 : ∀ k, I' 249 k = I 249 k) (h252 : ∀ k, I' 252 k = I 252 k) (h255 : ∀ k, I' 255 k = I 255 k) (h257 : I' 257 0 = I 257 0) (h259 : I' 259 0 = I 259 0) (h : rqM I q) : rqM I' q := by
  obtain ⟨a, b, c, e⟩ := h
  refine ⟨fun i hi => by rw [h246]; exact a i hi, grN_c h259 (h249 12) (h252 12) b, by rw [h257]; exact c, fun i hi => ?_⟩
  rw [h249, h252, h255]; exact e i hi
/-- cells that the rules' reading writes, the spare rules at o -/
def ftS (o : Nat) : Nat → Nat → Prop := fun p k => jdS o p k ∨ mlS p k
/-- cells of the rules in use -/
def rqS (o : Nat) : Nat → Nat → Prop := fun p k => (o ≤ p ∧ p ≤ o + 4) ∨ p = 246 ∨ p = 249 ∨ p = 252 ∨ p = 255 ∨ (p = 257 ∧ k = 0) ∨ (p = 259 ∧ k = 0)
theorem RelQ_c {S : Nat → Nat → Prop} {s s' : zS} (hE : zE S s s') (hS : ∀ p k, S p k → ¬ rqS (s.2.2.1 64 15) p k) (h : RelQ s) : RelQ s' := by
  obtain ⟨q, h1, h2, h3, h4⟩ := h
  have e : ∀ p k, rqS (s.2.2.1 64 15) p k → s'.1 p k = s.1 p k := fun p k w => hE.2 p k (fun u => hS p k u w)
  have hr : s'.2.2.1 64 15 = s.2.2.1 64 15 := by rw [zE_R hE]
  refine ⟨q, h1, h2, ?_, ?_⟩
  · rw [hr]
    exact rqC_c (fun k => e _ _ (by unfold rqS; omega)) (fun k => e _ _ (by unfold rqS; omega)) (fun k => e _ _ (by unfold rqS; omega)) (fun k => e _ _ (by unfold rqS; omega)) (fun k => e _ _ (by unfold rqS; omega)) h3
  · exact rqM_c (fun k => e _ _ (by unfold rqS; omega)) (fun k => e _ _ (by unfold rqS; omega)) (fun k => e _ _ (by unfold rqS; omega)) (fun k => e _ _ (by unfold rqS; omega)) (e _ _ (by unfold rqS; omega)) (e _ _ (by unfold rqS; omega)) h4
theorem RelQ_ft {s s' : zS} (hR : zRok s) (hE : zE (ftS (s.2.2.1 64 16)) s s') (h : RelQ s) : RelQ s' :=
  RelQ_c hE (fun p k w => by unfold ftS jdS mlS rdS at w; unfold rqS; have := hR.2; omega) h
theorem tx_X {s : zS} (hX : RelX s.1) : tx (chr s.1) (nX s.1) s ∧ mx (chr s.1) (nX s.1) s := by
  have hl := RN_l hX.1
  have e0 : s.1 164 29 = nI (nX s.1) := RN_n hX.1
  refine ⟨⟨by rw [hX.2.1]; exact e0, hl, fun k hk => ?_⟩, e0, hl, fun k hk => ?_⟩
  · have := by_ch hX hk; exact ⟨this.1, this.2.1⟩
  · have := by_ch hX hk; exact ⟨this.2.1, this.2.2⟩
section OR
variable {l : Launch} {g : zG} {d : Nat} {s : zS}
theorem op_fault (hR : zRok s) {Q : zS → Prop} (hX : RelX s.1) (h2 : ∀ s', zE (ftS (s.2.2.1 64 16)) s s' → Q s') :
    zc l g (d + 40) M_X7_fault [.ref 64] s (zKi fun r s5 => zc l g (d + 40) M_X8_fault [.ref 164] s5 (zKi fun r' s10 => r = r' ∧ Q s10)) := by
  obtain ⟨hx, hm⟩ := tx_X hX
  have ho := rp_or hR
  generalize chr s.1 = f at *
  generalize nX s.1 = n at *
  refine t_X7_fault (d := d + 39) hR rfl ho ?_
  generalize hrp : s.2.2.1 64 16 = rp at *
  refine c_judge (d := d + 9) ho hR hx (fun r1 s1 T hE1 t1 t2 t3 hq => ⟨zE_R hE1, ?_⟩) (fun r1 s1 T hE1 t1 t2 t3 => ⟨zE_R hE1, ?_⟩)
  · have hm1 : mx f n s1 := mx_c (hE1.2 _ _ (by unfold jdS; omega)) (fun k => hE1.2 _ _ (by unfold jdS; omega)) hm
    refine t_X8_fault (d := d + 39) (zE_K hE1 hR) (m_reads (d := d + 3) (zE_K hE1 hR) hm1 t1 t3 (fun r2 s2 hE2 h2' hq2 => ⟨zE_R hE2, ?_⟩) (fun r2 => absurd (r1.symm.trans r2) (by decide)))
    rw [h2'.2.2.2.2.2.2.1]
    exact ⟨rfl, h2 s2 (zE_t (zE_m hE1 (fun _ _ w => Or.inl w)) (zE_m hE2 (fun _ _ w => Or.inr w)))⟩
  · have hm1 : mx f n s1 := mx_c (hE1.2 _ _ (by unfold jdS; omega)) (fun k => hE1.2 _ _ (by unfold jdS; omega)) hm
    refine t_X8_fault (d := d + 39) (zE_K hE1 hR) (m_reads (d := d + 3) (zE_K hE1 hR) hm1 t1 t3 (fun r2 => absurd (r2.symm.trans r1) (by decide)) (fun r2 s2 hE2 e2 => ⟨zE_R hE2, ?_⟩))
    rw [e2]
    exact ⟨rfl, h2 s2 (zE_t (zE_m hE1 (fun _ _ w => Or.inl w)) (zE_m hE2 (fun _ _ w => Or.inr w)))⟩
theorem m_rules_40 {K : Int32 → zS → Prop} {sB : zS} (hR0 : zRok sB) {L : Nat} (hL : L ≤ 400) (h258 : sB.1 258 1 = nI L) (hK : ∀ s', zE (fun o _ => o = 246) sB s' → (∀ k, k < L → s'.1 246 k = sB.1 247 k) → zt l g (d + 1) M_X8_rules 74 [.ref 164, .int 0] [] s' (zKi K)) :
    ∀ m i s, i + m = L → zE (fun o _ => o = 246) sB s → (∀ k, k < i → s.1 246 k = sB.1 247 k) → zt l g (d + 1) M_X8_rules 40 [.ref 164, .int (nI i)] [] s (zKi K) := by
  intro m
  induction m with
  | zero =>
    intro i s hi hE h
    have : i = L := by omega
    subst this
    refine t_X8_rules_40 (zE_K hE hR0) ?_
    rw [hE.2 258 1 (by decide), h258, if_pos (nI_le (by omega) (by omega))]
    exact hK s hE h
  | succ m ih =>
    intro i s hi hE h
    have hv : vp_in (nI i) 420 := vp_in_nI (by omega) (by decide)
    refine t_X8_rules_40 (zE_K hE hR0) ?_
    rw [hE.2 258 1 (by decide), h258, if_neg (nI_ge (by omega) (by omega)), nI_clamp (by omega), ← nI_succ, hE.2 247 i (by omega)]
    refine ⟨hv, hv, ih (i + 1) _ (by omega) (zE_i hE rfl) (fun k hk => ?_)⟩
    by_cases e : k = i
    · rw [e, zI_eq]
    · rw [zI_k e]; exact h k (by omega)
def cpS : Nat → Nat → Prop := fun o _ => o = 249 ∨ o = 252 ∨ o = 255
theorem m_rules_74 {K : Int32 → zS → Prop} {sB : zS} (hR0 : zRok sB) (hK : ∀ s', zE cpS sB s' → (∀ k, k < 13 → s'.1 249 k = sB.1 250 k ∧ s'.1 252 k = sB.1 253 k ∧ s'.1 255 k = sB.1 256 k) → K (s'.1 257 0) (zI s' 164 29 0)) :
    ∀ m i s, i + m = 13 → zE cpS sB s → (∀ k, k < i → s.1 249 k = sB.1 250 k ∧ s.1 252 k = sB.1 253 k ∧ s.1 255 k = sB.1 256 k) → zt l g (d + 1) M_X8_rules 74 [.ref 164, .int (nI i)] [] s (zKi K) := by
  intro m
  induction m with
  | zero =>
    intro i s hi hE h
    have : i = 13 := by omega
    subst this
    refine t_X8_rules_74 (zE_K hE hR0) ?_
    rw [if_pos (by decide)]
    exact hK s hE h
  | succ m ih =>
    intro i s hi hE h
    have hv : vp_in (nI i) 13 := vp_in_nI (by omega) (by decide)
    refine t_X8_rules_74 (zE_K hE hR0) ?_
    rw [if_neg (by rw [show (12 : Int32) = nI 12 from rfl, ti_lt, nI_toInt (by decide), nI_toInt (by omega)]; omega), nI_clamp (by omega), ← nI_succ]
    have e : ∀ o k v v' v'', (o = 250 ∨ o = 253 ∨ o = 256) → (zI (zI (zI s 249 i v) 252 i v') 255 i v'').1 o k = s.1 o k := fun o k v v' v'' w => by rw [zI_o (by omega), zI_o (by omega), zI_o (by omega)]
    have e' : ∀ o k, (o = 250 ∨ o = 253 ∨ o = 256) → s.1 o k = sB.1 o k := fun o k w => hE.2 o k (by unfold cpS; omega)
    refine ⟨hv, hv, hv, hv, hv, hv, ih (i + 1) _ (by omega) (zE_i (zE_i (zE_i hE (Or.inl rfl)) (Or.inr (Or.inl rfl))) (Or.inr (Or.inr rfl))) (fun k hk => ?_)⟩
    rw [e' 250 i (by omega), e' 253 i (by omega), e' 256 i (by omega)]
    by_cases q : k = i
    · rw [q]
      refine ⟨?_, ?_, zI_eq⟩
      · rw [zI_o (by decide), zI_o (by decide), zI_eq]
      · rw [zI_o (by decide), zI_eq]
    · obtain ⟨a, b, c⟩ := h k (by omega)
      refine ⟨?_, ?_, ?_⟩
      · rw [zI_o (by decide), zI_o (by decide), zI_k q]; exact a
      · rw [zI_o (by decide), zI_k q, zI_o (by decide)]; exact b
      · rw [zI_k q, zI_o (by decide), zI_o (by decide)]; exact c
/-- cells that new rules write -/
def rlS : Nat → Nat → Prop := fun p k => p = 75 ∨ p = 77 ∨ p = 78 ∨ (79 ≤ p ∧ p ≤ 83) ∨ (85 ≤ p ∧ p ≤ 89) ∨ (p = 164 ∧ 29 ≤ k ∧ k ≤ 32) ∨ (246 ≤ p ∧ p ≤ 259)
def zF (S : Nat → Nat → Prop) (s s' : zS) : Prop := s'.2.1 = s.2.1 ∧ s'.2.2.2 = s.2.2.2 ∧ zRok s' ∧ ∀ o k, ¬ S o k → s'.1 o k = s.1 o k
theorem rn_narrow {x : Int32} (h : x = 0 ∨ x = 1) : narrow .boolean (.int x) = .int x := by
  rcases h with h | h <;> subst h <;> rfl
theorem op_rules (hR : zRok s) {Q : zS → Prop} (hX : RelX s.1) (h1 : ∀ s', zE (ftS (s.2.2.1 64 16)) s s' → Q s') (h2 : ∀ s', zF rlS s s' → RelQ s' → RelX s'.1 → Q s') :
    zc l g (d + 40) M_X7_rules [.ref 64] s (zKi fun r s5 => zc l g (d + 40) M_X8_rules [.ref 164] s5 (zKi fun r' s10 => r = r' ∧ Q s10)) := by
  obtain ⟨hx, hm⟩ := tx_X hX
  have ho := rp_or hR
  have hn := rn_or hR
  have hor := hR.2
  generalize chr s.1 = f at *
  generalize nX s.1 = n at *
  refine t_X7_rules (d := d + 39) hR rfl hn rfl ho ?_
  generalize hrp : s.2.2.1 64 16 = rp at *
  generalize hrn : s.2.2.1 64 15 = rn at *
  refine c_judge (d := d + 9) ho hR hx (fun r1 s1 T hE1 t1 t2 t3 hq => ⟨zE_R hE1, ?_⟩) (fun r1 s1 T hE1 t1 t2 t3 => ⟨zE_R hE1, ?_⟩)
  rotate_left
  · have hm1 : mx f n s1 := mx_c (hE1.2 _ _ (by unfold jdS; omega)) (fun k => hE1.2 _ _ (by unfold jdS; omega)) hm
    have n4 := hx.2.1
    have hb : ∀ j, ¬ nI (stt f n j) = -1 := fun j => by
      have := (stt_b f n j).1
      rw [ti_eq, nI_toInt (by omega), show (-1 : Int32).toInt = -1 from rfl]; omega
    rw [if_neg (hb _)]
    refine t_X8_rules (d := d + 39) (zE_K hE1 hR) (m_reads (d := d + 3) (zE_K hE1 hR) hm1 t1 t3 (fun r2 => absurd (r2.symm.trans r1) (by decide)) (fun r2 s2 hE2 e2 => ⟨zE_R hE2, ?_⟩))
    rw [e2, if_neg (hb _)]
    exact ⟨rfl, h1 s2 (zE_t (zE_m hE1 (fun _ _ w => Or.inl w)) (zE_m hE2 (fun _ _ w => Or.inr w)))⟩
  rw [if_pos rfl]
  obtain ⟨hc1, hq1⟩ := hq
  have hrw := gd_pall (t := tkJ f n) (T := T) (tk_end.mpr (by omega))
  have hlen := hc1.2.2.2.2.2.2.1
  have hTj := hc1.2.2.2.2.1
  have hT4 := hc1.2.2.1
  have hRs : zRok (zI (zRf (zRf s1 64 15 rp) 64 16 rn) 75 1 (0)) := by
    have e1 : s1.2.2.1 = s.2.2.1 := zE_R hE1
    refine ⟨fun o k hk => ?_, ?_⟩
    · show (if o = 64 ∧ k = 16 then rn else if o = 64 ∧ k = 15 then rp else s1.2.2.1 o k) = _
      by_cases w1 : o = 64 ∧ k = 16
      · exfalso; rw [w1.1, w1.2] at hk; exact hk (by decide)
      by_cases w2 : o = 64 ∧ k = 15
      · exfalso; rw [w2.1, w2.2] at hk; exact hk (by decide)
      rw [if_neg w1, if_neg w2, e1]
      exact hR.1 o k hk
    · show (rp = 79 ∧ rn = 85) ∨ (rp = 85 ∧ rn = 79)
      omega
  have k5 : ∀ o k, ¬ (o = 75 ∧ k = 1) → (zI (zRf (zRf s1 64 15 rp) 64 16 rn) 75 1 (0)).1 o k = s1.1 o k := fun o k w => by
    show (if o = 75 ∧ k = 1 then (0 : Int32) else s1.1 o k) = _
    rw [if_neg w]
  have v5 : (zI (zRf (zRf s1 64 15 rp) 64 16 rn) 75 1 (0)).1 75 1 = 0 := zI_eq
  have r5 : (zI (zRf (zRf s1 64 15 rp) 64 16 rn) 75 1 (0)).2.2.1 64 15 = rp := rfl
  have l5 : (zI (zRf (zRf s1 64 15 rp) 64 16 rn) 75 1 (0)).2.1 = s.2.1 := by show s1.2.1 = s.2.1; rw [hE1.1]
  have n5 : (zI (zRf (zRf s1 64 15 rp) 64 16 rn) 75 1 (0)).2.2.2 = s.2.2.2 := by show s1.2.2.2 = s.2.2.2; rw [hE1.1]
  generalize zI (zRf (zRf s1 64 15 rp) 64 16 rn) 75 1 (0) = s5 at *
  have hm5 : mx f n s5 := mx_c (by rw [k5 _ _ (by omega)]; exact hE1.2 _ _ (by unfold jdS; omega)) (fun k => by rw [k5 _ _ (by omega)]; exact hE1.2 _ _ (by unfold jdS; omega)) hm
  refine t_X8_rules (d := d + 39) hRs (m_reads (d := d + 3) hRs hm5 t1 t3 (fun r2 s2 hE2 h2' hq2 => ⟨zE_R hE2, ?_⟩) (fun r2 => absurd (r1.symm.trans r2) (by decide)))
  rw [h2'.2.2.2.2.2.2.1, if_pos rfl]
  generalize (pAll (tkJ f n)).2.2 = q at *
  have g01 : s2.1 259 1 = 0 ∨ s2.1 259 1 = 1 := by
    have hg := hq2.1
    revert hg
    cases q.2.1 with
    | none => exact fun hg => Or.inl hg
    | some p => exact fun hg => Or.inr hg.1
  refine ⟨rn_narrow g01, ?_⟩
  have hR2 := zE_K hE2 hRs
  have k6 : ∀ o k, ¬ (o = 257 ∧ k = 0) → ¬ (o = 259 ∧ k = 0) → (zI (zI s2 257 0 (s2.1 257 1)) 259 0 (s2.1 259 1)).1 o k = s2.1 o k := fun o k w1 w2 => by
    rw [zI_1, if_neg w2, zI_1, if_neg w1]
  have v6 : (zI (zI s2 257 0 (s2.1 257 1)) 259 0 (s2.1 259 1)).1 257 0 = s2.1 257 1 := by rw [zI_o (by decide), zI_eq]
  have w6 : (zI (zI s2 257 0 (s2.1 257 1)) 259 0 (s2.1 259 1)).1 259 0 = s2.1 259 1 := zI_eq
  have r6 : (zI (zI s2 257 0 (s2.1 257 1)) 259 0 (s2.1 259 1)).2 = s2.2 := rfl
  have hR6 : zRok (zI (zI s2 257 0 (s2.1 257 1)) 259 0 (s2.1 259 1)) := hR2
  generalize zI (zI s2 257 0 (s2.1 257 1)) 259 0 (s2.1 259 1) = s6 at *
  have h258 : s6.1 258 1 = nI q.1.length := by rw [k6 _ _ (by omega) (by omega), h2'.2.2.2.2.2.2.2.1, List.length_map]
  refine m_rules_40 (d := d + 39) (sB := s6) hR6 (L := q.1.length) (by omega) h258 (fun s7 hE7 e7 => ?_) q.1.length 0 s6 (by omega) zE_r (fun k hk => absurd hk (Nat.not_lt_zero k))
  refine m_rules_74 (d := d + 39) (sB := s7) (zE_K hE7 hR6) (fun s8 hE8 e8 => ?_) 13 0 s7 (by omega) zE_r (fun k hk => absurd hk (Nat.not_lt_zero k))
  -- the cells at the end
  have f8 : ∀ o k, ¬ (o = 249 ∨ o = 252 ∨ o = 255) → ¬ o = 246 → s8.1 o k = s6.1 o k := fun o k w1 w2 => by rw [hE8.2 o k w1, hE7.2 o k w2]
  have e257 : s8.1 257 0 = nI q.2.2.length := by rw [f8 257 0 (by decide) (by decide), v6]; exact hq2.2.1
  have e5 : s1.1 rp 5 = nI q.2.2.length := hq1.2.1
  have k9 : ∀ o k, ¬ (o = 164 ∧ k = 29) → (zI s8 164 29 0).1 o k = s8.1 o k := fun o k w => by rw [zI_1, if_neg w]
  have v9 : (zI s8 164 29 0).1 164 29 = 0 := zI_eq
  have r9 : (zI s8 164 29 0).2 = s5.2 := by show s8.2 = s5.2; rw [hE8.1, hE7.1, r6, hE2.1]
  have hR9 : zRok (zI s8 164 29 0) := zRok_of (by rw [r9]) hRs
  generalize zI s8 164 29 0 = s9 at *
  have fr : ∀ o k, ¬ rlS o k → s9.1 o k = s.1 o k := fun o k w => by
    rw [k9 o k (by unfold rlS at w; omega), f8 o k (by unfold rlS at w; omega) (by unfold rlS at w; omega), k6 o k (by unfold rlS at w; omega) (by unfold rlS at w; omega), hE2.2 o k (by unfold mlS rdS; unfold rlS at w; omega), k5 o k (by unfold rlS at w; omega), hE1.2 o k (by unfold jdS; unfold rlS at w; omega)]
  have fc : ∀ o k, rp ≤ o → o ≤ rp + 4 → s9.1 o k = s1.1 o k := fun o k w1 w2 => by
    rw [k9 o k (by omega), f8 o k (by omega) (by omega), k6 o k (by omega) (by omega), hE2.2 o k (by unfold mlS rdS; omega), k5 o k (by omega)]
  refine ⟨by rw [e257, e5], h2 s9 ⟨by rw [r9]; exact l5, by rw [r9]; exact n5, hR9, fr⟩ ⟨q, hrw.2, by omega, ?_, ?_, ?_, ?_, fun i hi => ?_⟩ ⟨?_, ?_, fun k hk => ?_⟩⟩
  · rw [show s9.2.2.1 64 15 = rp by rw [r9]; exact r5]
    exact rqC_c (fun k => fc _ _ (by omega) (by omega)) (fun k => fc _ _ (by omega) (by omega)) (fun k => fc _ _ (by omega) (by omega)) (fun k => fc _ _ (by omega) (by omega)) (fun k => fc _ _ (by omega) (by omega)) ⟨hc1.2.2.2.2.2.2.2, hq1⟩
  · intro i hi
    rw [k9 246 i (by omega), hE8.2 246 i (by unfold cpS; omega), e7 i hi, k6 247 i (by omega) (by omega)]
    exact h2'.2.2.2.2.2.2.2.2.2 i (by rw [List.length_map]; exact hi)
  · have a259 : s9.1 259 0 = s2.1 259 1 := by rw [k9 259 0 (by omega), f8 259 0 (by decide) (by decide), w6]
    have a249 : s9.1 249 12 = s2.1 250 12 := by rw [k9 249 12 (by omega), (e8 12 (by decide)).1, hE7.2 250 12 (by decide), k6 250 12 (by omega) (by omega)]
    have a252 : s9.1 252 12 = s2.1 253 12 := by rw [k9 252 12 (by omega), (e8 12 (by decide)).2.1, hE7.2 253 12 (by decide), k6 253 12 (by omega) (by omega)]
    have hg := hq2.1
    revert hg
    cases q.2.1 with
    | none => intro hg; show s9.1 259 0 = 0; rw [a259]; exact hg
    | some p => intro hg; show s9.1 259 0 = 1 ∧ s9.1 249 12 = nI p.1 ∧ s9.1 252 12 = nI (p.2 - p.1); rw [a259, a249, a252]; exact hg
  · rw [k9 257 0 (by omega)]; exact e257
  · have hi12 : i < 13 := by have := hq2.2.2.1; omega
    have a249 : s9.1 249 i = s2.1 250 i := by rw [k9 249 i (by omega), (e8 i hi12).1, hE7.2 250 i (by omega), k6 250 i (by omega) (by omega)]
    have a252 : s9.1 252 i = s2.1 253 i := by rw [k9 252 i (by omega), (e8 i hi12).2.1, hE7.2 253 i (by omega), k6 253 i (by omega) (by omega)]
    have a255 : s9.1 255 i = s2.1 256 i := by rw [k9 255 i (by omega), (e8 i hi12).2.2, hE7.2 256 i (by omega), k6 256 i (by omega) (by omega)]
    rw [a249, a252, a255]
    exact hq2.2.2.2 i hi
  · unfold RN; rw [v9]; decide
  · rw [v9, k9 75 1 (by omega), f8 75 1 (by decide) (by decide), k6 75 1 (by omega) (by omega), hE2.2 75 1 (by unfold mlS rdS; omega)]; exact v5
  · exfalso
    have : nX s9.1 = 0 := by unfold nX; rw [v9]; rfl
    omega
end OR
