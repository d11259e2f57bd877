/-! ===== the text: bytes on both sides ===== -/
theorem m255 : ∀ i, i < 32 → (255#32 : BitVec 32).getLsbD i = decide (i < 8) := by decide
/-- one byte of four, as each side takes it out -/
def byC (x : Int32) (sh : Nat) : Int32 := ⟨⟨x.toBitVec.sshiftRight sh &&& 255#32⟩⟩
def byM (x : Int32) (sh : Nat) : Int32 := ⟨⟨BitVec.signExtend 32 (BitVec.signExtend 8 (BitVec.signExtend 32 (BitVec.signExtend 8 (x.toBitVec >>> sh))))⟩⟩
theorem by_e {x : Int32} {sh : Nat} (h : sh ≤ 24) : byC x sh = byM x sh &&& 255 := by
  apply Int32.toBitVec_inj.mp
  rw [Int32.toBitVec_and]
  show x.toBitVec.sshiftRight sh &&& 255#32 = BitVec.signExtend 32 (BitVec.signExtend 8 (BitVec.signExtend 32 (BitVec.signExtend 8 (x.toBitVec >>> sh)))) &&& 255#32
  apply BitVec.eq_of_getLsbD_eq
  intro i hi
  rw [BitVec.getLsbD_and, BitVec.getLsbD_and, m255 i hi]
  by_cases q : i < 8
  · rw [BitVec.getLsbD_sshiftRight, BitVec.getLsbD_signExtend, BitVec.getLsbD_signExtend, BitVec.getLsbD_signExtend, BitVec.getLsbD_signExtend, BitVec.getLsbD_ushiftRight]
    have h1 : sh + i < 32 := by omega
    have h2 : i < 32 := hi
    have h3 : ¬ 32 ≤ i := by omega
    simp [q, h1, h2, h3]
  · simp [q]
theorem byM_r {x : Int32} {sh : Nat} : -128 ≤ (byM x sh).toInt ∧ (byM x sh).toInt ≤ 127 := by
  have h : (byM x sh).toInt = (BitVec.signExtend 8 (BitVec.signExtend 32 (BitVec.signExtend 8 (x.toBitVec >>> sh)))).toInt := by
    show (BitVec.signExtend 32 _).toInt = _
    rw [BitVec.toInt_signExtend]
    have h1 := BitVec.toInt_lt (x := BitVec.signExtend 8 (BitVec.signExtend 32 (BitVec.signExtend 8 (x.toBitVec >>> sh))))
    have h2 := BitVec.le_toInt (x := BitVec.signExtend 8 (BitVec.signExtend 32 (BitVec.signExtend 8 (x.toBitVec >>> sh))))
    apply Int.bmod_eq_of_le <;> simp at h1 h2 ⊢ <;> omega
  have h1 := BitVec.toInt_lt (x := BitVec.signExtend 8 (BitVec.signExtend 32 (BitVec.signExtend 8 (x.toBitVec >>> sh))))
  have h2 := BitVec.le_toInt (x := BitVec.signExtend 8 (BitVec.signExtend 32 (BitVec.signExtend 8 (x.toBitVec >>> sh))))
  rw [h]
  simp at h1 h2
  omega
def nX (I : zM2) : Nat := (I 164 29).toNatClampNeg
def RelX (I : zM2) : Prop := RN I 164 29 400 ∧ I 75 1 = I 164 29 ∧ ∀ k, k < nX I → I 76 k = I 244 k &&& 255 ∧ -128 ≤ (I 244 k).toInt ∧ (I 244 k).toInt ≤ 127
def feedS : Nat → Nat → Prop := fun o k => o = 76 ∨ (o = 75 ∧ k = 1) ∨ o = 244 ∨ (o = 164 ∧ k = 29)
/-- four bytes laid on either side -/
def w4 (a : Nat) (c n : Nat) (t : Nat) (f : Int32 → Nat → Int32) (x : Int32) (s : zS) (p : Nat) : zS :=
  zI (zI (zI (zI (zI (zI (zI (zI s a p (f x 24)) c n (nI (p + 1))) a (p + 1) (f x 16)) c n (nI (p + 2))) a (p + 2) (f x 8)) c n (nI (p + 3))) a (p + 3) (f x 0)) c n (nI (p + 4))
section FD
variable {l : Launch} {g : zG} {d : Nat} {s : zS} {x : Int32} {K : zS → Prop}
theorem c_append (hR : zRok s) {p : Nat} (hp : p + 4 ≤ 400) (hn : s.1 75 1 = nI p) (h : K (w4 76 75 1 0 byC x s p)) : zc l g d M_X2_append [.ref 75, .int x] s (zKv K) := by
  have st : ∀ (s : zS) (p : Nat) (q : Int32) (sh : Nat) (K : zS → Prop), zRok s → p < 400 → s.1 75 1 = nI p → ¬ q < 0 → (x >>> (q &&& 31)) &&& 255 = byC x sh → zt l g d M_X2_append 3 [.ref 75, .int x, .int (q - 8)] [] (zI (zI s 76 p (byC x sh)) 75 1 (nI (p + 1))) (zKv K) → zt l g d M_X2_append 3 [.ref 75, .int x, .int q] [] s (zKv K) := by
    intro s p q sh K hR hp hn hq hb h
    refine t_X2_append_3 hR ?_
    rw [if_neg hq, hn, if_neg (by rw [ti_le, nI_toInt (by omega)]; simp only [til]; omega), nI_clamp (by omega), hb, ← nI_succ]
    exact ⟨vp_in_nI hp (by decide), h⟩
  refine t_X2_append hR ?_
  refine st s p 24 24 K hR (by omega) hn (by decide) rfl ?_
  refine st _ (p + 1) (24 - 8) 16 K hR (by omega) (by rw [zI_eq]) (by decide) rfl ?_
  refine st _ (p + 2) (24 - 8 - 8) 8 K hR (by omega) (by rw [zI_eq]) (by decide) rfl ?_
  refine st _ (p + 3) (24 - 8 - 8 - 8) 0 K hR (by omega) (by rw [zI_eq]) (by decide) rfl ?_
  refine t_X2_append_3 (s := w4 76 75 1 0 byC x s p) hR ?_
  rw [if_pos (by decide)]
  exact h
theorem m_feeds (hR : zRok s) {p : Nat} (hp : p + 4 ≤ 400) (hn : s.1 164 29 = nI p) (h : K (w4 244 164 29 0 byM x s p)) : zc l g d M_X8_feeds [.ref 164, .int x] s (zKv K) := by
  have st : ∀ (s : zS) (p : Nat) (q : Int32) (sh : Nat) (K : zS → Prop), zRok s → p < 400 → s.1 164 29 = nI p → ¬ q < 0 → (((zushr x (8 * q)).toInt8.toInt32).toInt8.toInt32) = byM x sh → zt l g d M_X8_feeds 2 [.ref 164, .int x, .int (q - 1)] [] (zI (zI s 244 p (byM x sh)) 164 29 (nI (p + 1))) (zKv K) → zt l g d M_X8_feeds 2 [.ref 164, .int x, .int q] [] s (zKv K) := by
    intro s p q sh K hR hp hn hq hb h
    refine t_X8_feeds_2 hR ?_
    rw [if_neg hq, hn, nI_clamp (by omega), hb, ← nI_succ]
    exact ⟨vp_in_nI hp (by decide), h⟩
  refine t_X8_feeds hR ?_
  refine st s p 3 24 K hR (by omega) hn (by decide) rfl ?_
  refine st _ (p + 1) (3 - 1) 16 K hR (by omega) (by rw [zI_eq]) (by decide) rfl ?_
  refine st _ (p + 2) (3 - 1 - 1) 8 K hR (by omega) (by rw [zI_eq]) (by decide) rfl ?_
  refine st _ (p + 3) (3 - 1 - 1 - 1) 0 K hR (by omega) (by rw [zI_eq]) (by decide) rfl ?_
  refine t_X8_feeds_2 (s := w4 244 164 29 0 byM x s p) hR ?_
  rw [if_pos (by decide)]
  exact h
end FD
section W4
variable {a c n t : Nat} {f : Int32 → Nat → Int32} {x : Int32} {s : zS} {p : Nat}
theorem w4_lt {k : Nat} (hac : ¬ a = c) (h : k < p) : (w4 a c n t f x s p).1 a k = s.1 a k := by
  have h0 : ¬ k = p := by omega
  have h1 : ¬ k = p + 1 := by omega
  have h2 : ¬ k = p + 2 := by omega
  have h3 : ¬ k = p + 3 := by omega
  unfold w4
  rw [zI_o hac, zI_k h3, zI_o hac, zI_k h2, zI_o hac, zI_k h1, zI_o hac, zI_k h0]
theorem w4_o {o k : Nat} (h1 : ¬ o = a) (h2 : ¬ (o = c ∧ k = n)) : (w4 a c n t f x s p).1 o k = s.1 o k := by
  unfold w4
  have z : ∀ (σ : zS) (v : Int32), (zI σ c n v).1 o k = σ.1 o k := fun σ v => by rw [zI_1, if_neg h2]
  rw [z, zI_o h1, z, zI_o h1, z, zI_o h1, z, zI_o h1]
theorem w4_c : (w4 a c n t f x s p).1 c n = nI (p + 4) := by unfold w4; rw [zI_eq]
theorem w4_b {j : Nat} (hac : ¬ a = c) (h : j < 4) : (w4 a c n t f x s p).1 a (p + j) = f x (24 - 8 * j) := by
  have : j = 0 ∨ j = 1 ∨ j = 2 ∨ j = 3 := by omega
  unfold w4
  rcases this with rfl | rfl | rfl | rfl <;> simp [zI_1, hac]
theorem w4_E {S : Nat → Nat → Prop} {s0 : zS} (h : zE S s0 s) (h1 : ∀ k, S a k) (h2 : S c n) : zE S s0 (w4 a c n t f x s p) := by
  unfold w4
  exact zE_i (zE_i (zE_i (zE_i (zE_i (zE_i (zE_i (zE_i h (h1 _)) h2) (h1 _)) h2) (h1 _)) h2) (h1 _)) h2
end W4
def w5 (a c n t : Nat) (f : Int32 → Nat → Int32) (x0 x1 x2 x3 x4 : Int32) (s : zS) (p : Nat) : zS :=
  w4 a c n t f x4 (w4 a c n t f x3 (w4 a c n t f x2 (w4 a c n t f x1 (w4 a c n t f x0 s p) (p + 4)) (p + 8)) (p + 12)) (p + 16)
def x5 (x0 x1 x2 x3 x4 : Int32) (i : Nat) : Int32 := if i = 0 then x0 else if i = 1 then x1 else if i = 2 then x2 else if i = 3 then x3 else x4
section W5
variable {a c n t : Nat} {f : Int32 → Nat → Int32} {x0 x1 x2 x3 x4 : Int32} {s : zS} {p : Nat}
theorem w5_lt {k : Nat} (hac : ¬ a = c) (h : k < p) : (w5 a c n t f x0 x1 x2 x3 x4 s p).1 a k = s.1 a k := by
  unfold w5
  rw [w4_lt hac (by omega), w4_lt hac (by omega), w4_lt hac (by omega), w4_lt hac (by omega), w4_lt hac h]
theorem w5_o {o k : Nat} (h1 : ¬ o = a) (h2 : ¬ (o = c ∧ k = n)) : (w5 a c n t f x0 x1 x2 x3 x4 s p).1 o k = s.1 o k := by
  unfold w5
  rw [w4_o h1 h2, w4_o h1 h2, w4_o h1 h2, w4_o h1 h2, w4_o h1 h2]
theorem w5_c : (w5 a c n t f x0 x1 x2 x3 x4 s p).1 c n = nI (p + 20) := by unfold w5; rw [w4_c]
theorem w5_b {j q : Nat} (hac : ¬ a = c) (h : j < 4) (hq : q < 5) : (w5 a c n t f x0 x1 x2 x3 x4 s p).1 a (p + 4 * q + j) = f (x5 x0 x1 x2 x3 x4 q) (24 - 8 * j) := by
  have : q = 0 ∨ q = 1 ∨ q = 2 ∨ q = 3 ∨ q = 4 := by omega
  unfold w5
  rcases this with rfl | rfl | rfl | rfl | rfl
  · rw [w4_lt hac (by omega), w4_lt hac (by omega), w4_lt hac (by omega), w4_lt hac (by omega)]; exact w4_b hac h
  · rw [w4_lt hac (by omega), w4_lt hac (by omega), w4_lt hac (by omega)]; exact w4_b hac h
  · rw [w4_lt hac (by omega), w4_lt hac (by omega)]; exact w4_b hac h
  · rw [w4_lt hac (by omega)]; exact w4_b hac h
  · exact w4_b hac h
theorem w5_E {S : Nat → Nat → Prop} {s0 : zS} (h : zE S s0 s) (h1 : ∀ k, S a k) (h2 : S c n) : zE S s0 (w5 a c n t f x0 x1 x2 x3 x4 s p) :=
  w4_E (w4_E (w4_E (w4_E (w4_E h h1 h2) h1 h2) h1 h2) h1 h2) h1 h2
end W5
theorem RelX_c {I I' : zM2} (h1 : ∀ k, I' 76 k = I 76 k) (h2 : ∀ k, I' 244 k = I 244 k) (h3 : I' 75 1 = I 75 1) (h4 : I' 164 29 = I 164 29) (h : RelX I) : RelX I' := by
  unfold RelX nX RN at *
  rw [h3, h4]
  exact ⟨h.1, h.2.1, fun k hk => by rw [h1, h2]; exact h.2.2 k hk⟩
section OF
variable {l : Launch} {g : zG} {d : Nat} {s : zS}
theorem op_feed (hR : zRok s) {x0 x1 x2 x3 x4 : Int32} {Q : zS → Prop} (hX : RelX s.1) (h1 : Q s) (h2 : ∀ s', zE feedS s s' → RelX s'.1 → Q s') :
    zc l g (d + 1) M_X7_feed [.ref 64, .int x0, .int x1, .int x2, .int x3, .int x4] s (zKi fun r s5 => zc l g (d + 1) M_X8_feed [.ref 164, .int x0, .int x1, .int x2, .int x3, .int x4] s5 (zKi fun r' s10 => r = r' ∧ Q s10)) := by
  have hc := hX.1
  have hv := hX.2.1
  have hl := RN_l hc
  have e0 : s.1 164 29 = nI (nX s.1) := RN_n hc
  have e20 : (s.1 164 29 + 20).toInt = (s.1 164 29).toInt + 20 := by
    have e : (20 : Int32).toInt = 20 := rfl
    unfold RN at hc
    rw [ti_add (by omega) (by omega), e]
  refine t_X7_feed hR ?_
  rw [hv]
  by_cases w : s.1 164 29 + 20 ≤ 400
  rotate_left
  · rw [if_neg w]
    refine t_X8_feed hR ?_
    rw [if_neg w]
    exact ⟨rfl, h1⟩
  rw [if_pos w]
  have hp : nX s.1 + 20 ≤ 400 := by
    rw [ti_le, e20] at w
    simp only [til] at w
    have := ti_tn hc.1
    unfold nX
    omega
  refine c_append (p := nX s.1) hR (by omega) (by rw [hv]; exact e0) ⟨rfl, ?_⟩
  refine c_append (p := nX s.1 + 4) hR (by omega) w4_c ⟨rfl, ?_⟩
  refine c_append (p := nX s.1 + 8) hR (by omega) w4_c ⟨rfl, ?_⟩
  refine c_append (p := nX s.1 + 12) hR (by omega) w4_c ⟨rfl, ?_⟩
  refine c_append (p := nX s.1 + 16) hR (by omega) w4_c ⟨rfl, ?_⟩
  show zc l g (d + 1) M_X8_feed _ (w5 76 75 1 0 byC x0 x1 x2 x3 x4 s (nX s.1)) (zKi fun r' s10 => (w5 76 75 1 0 byC x0 x1 x2 x3 x4 s (nX s.1)).1 75 1 = r' ∧ Q s10)
  generalize hs5 : w5 76 75 1 0 byC x0 x1 x2 x3 x4 s (nX s.1) = s5
  have hE5 : zE feedS s s5 := by rw [← hs5]; exact w5_E zE_r (fun k => Or.inl rfl) (Or.inr (Or.inl ⟨rfl, rfl⟩))
  have hR5 := zE_K hE5 hR
  have e29 : s5.1 164 29 = s.1 164 29 := by rw [← hs5, w5_o (by decide) (by decide)]
  have e75 : s5.1 75 1 = nI (nX s.1 + 20) := by rw [← hs5, w5_c]
  refine t_X8_feed hR5 ?_
  rw [e29, if_pos w]
  refine m_feeds (p := nX s.1) hR5 (by omega) (by rw [e29]; exact e0) ⟨rfl, ?_⟩
  refine m_feeds (p := nX s.1 + 4) hR5 (by omega) w4_c ⟨rfl, ?_⟩
  refine m_feeds (p := nX s.1 + 8) hR5 (by omega) w4_c ⟨rfl, ?_⟩
  refine m_feeds (p := nX s.1 + 12) hR5 (by omega) w4_c ⟨rfl, ?_⟩
  refine m_feeds (p := nX s.1 + 16) hR5 (by omega) w4_c ⟨rfl, ?_⟩
  show s5.1 75 1 = (w5 244 164 29 0 byM x0 x1 x2 x3 x4 s5 (nX s.1)).1 164 29 ∧ Q (w5 244 164 29 0 byM x0 x1 x2 x3 x4 s5 (nX s.1))
  rw [w5_c, e75]
  refine ⟨rfl, h2 _ (w5_E hE5 (fun k => Or.inr (Or.inr (Or.inl rfl))) (Or.inr (Or.inr (Or.inr ⟨rfl, rfl⟩)))) ?_⟩
  refine ⟨?_, ?_, ?_⟩
  · unfold RN; rw [w5_c, nI_toInt (by omega)]; omega
  · rw [w5_c, w5_o (by decide) (by decide), e75]
  · intro k hk
    have en : nX (w5 244 164 29 0 byM x0 x1 x2 x3 x4 s5 (nX s.1)).1 = nX s.1 + 20 := by
      show Int32.toNatClampNeg _ = _
      rw [w5_c, nI_clamp (by omega)]
    rw [en] at hk
    rw [w5_o (a := 244) (by decide) (by simp)]
    by_cases q : k < nX s.1
    · rw [w5_lt (by decide) q, ← hs5, w5_lt (by decide) q, w5_o (by decide) (by simp)]
      exact hX.2.2 k q
    · have ek : k = nX s.1 + 4 * ((k - nX s.1) / 4) + (k - nX s.1) % 4 := by omega
      have hq5 : (k - nX s.1) / 4 < 5 := by omega
      have hj4 : (k - nX s.1) % 4 < 4 := by omega
      generalize (k - nX s.1) / 4 = qq at ek hq5
      generalize (k - nX s.1) % 4 = jj at ek hj4
      subst ek
      rw [w5_b (by decide) hj4 hq5, ← hs5, w5_b (by decide) hj4 hq5]
      exact ⟨by_e (by omega), byM_r⟩
theorem op_end (hR : zRok s) {p : Int32} {Q : zS → Prop} (hX : RelX s.1) (h1 : Q s) (h2 : ∀ s', zE feedS s s' → RelX s'.1 → Q s') :
    zc l g (d + 1) M_X7_end [.ref 64, .int p] s (zKz fun r s5 => zc l g (d + 1) M_X8_end [.ref 164, .int p] s5 (zKz fun r' s10 => r = r' ∧ Q s10)) := by
  have hc := hX.1
  have e1 : zinr p.toInt64 0 (s.1 164 29).toInt64 = bR 0 (s.1 164 29).toInt p := by rw [bR_z2]; rfl
  refine t_X7_end hR ?_
  rw [hX.2.1]
  by_cases w : bR 0 (s.1 164 29).toInt p = true
  rotate_left
  · have r0 : zc l g (d + 1) M_X8_end [.ref 164, .int p] s (zKz fun r' s10 => false = r' ∧ Q s10) := by
      refine t_X8_end hR ?_
      rw [e1, if_neg w]; exact ⟨rfl, h1⟩
    rw [bR_t] at w
    by_cases u : p < 0
    · rw [if_pos u]; exact r0
    · rw [if_neg u, if_neg (by rw [ti_le]; rw [ti_lt, til.1] at u; omega)]; exact r0
  have b := bR_t.mp w
  rw [if_neg (by rw [ti_lt, til.1]; omega), if_pos (by rw [ti_le]; omega)]
  refine t_X8_end (s := zI s 75 1 p) hR ?_
  rw [show (zI s 75 1 p).1 164 29 = s.1 164 29 from rfl, e1, if_pos w]
  refine ⟨rfl, h2 _ (zE_i (zE_i0 (by simp [feedS])) (by simp [feedS])) ?_⟩
  refine ⟨?_, rfl, ?_⟩
  · unfold RN at *; rw [zI_eq]; omega
  · intro k hk
    have hk2 : k < nX s.1 := by
      unfold nX at *
      rw [zI_eq] at hk
      have := ti_tn b.1
      have := ti_tn hc.1
      omega
    exact hX.2.2 k hk2
end OF
