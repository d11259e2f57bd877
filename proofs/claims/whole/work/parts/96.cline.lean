/-! ===== rules: lines, as a function of the tokens ===== -/
abbrev rQ : Type := List Int32 × Option (Nat × Nat) × List (Int32 × Nat × Nat)
abbrev rL : Type := Bool × Nat × rQ
def isKd (c : Int32) : Bool := decide (10004 ≤ c) && decide (c < 10011)
theorem isKd_i {c : Int32} : isKd c = true ↔ 10004 ≤ c ∧ c < 10011 := by unfold isKd; simp
def pLine (t : Nat → Int32) (j : Nat) (q : rQ) : rL :=
  if t j = 10000 ∧ q.2.1 = none then
    (if (pSumD t 8 (j + 1)).1 = true then
      (if t (pSumD t 8 (j + 1)).2.1 = 20059 then (true, (pSumD t 8 (j + 1)).2.1 + 1, (q.1 ++ (pSumD t 8 (j + 1)).2.2, some (q.1.length, q.1.length + (pSumD t 8 (j + 1)).2.2.length), q.2.2))
       else (false, (pSumD t 8 (j + 1)).2.1, q))
     else (false, (pSumD t 8 (j + 1)).2.1, q))
  else if t j = 10001 ∧ q.2.2.length < 12 then
    (if isKd (t (j + 1)) = true then
      (if t (j + 2) = 10002 then
        (if (pCond t (j + 3)).1 = true then
          (if t (pCond t (j + 3)).2.1 = 20059 then (true, (pCond t (j + 3)).2.1 + 1, (q.1 ++ (pCond t (j + 3)).2.2, q.2.1, q.2.2 ++ [(t (j + 1) - 10004, q.1.length, q.1.length + (pCond t (j + 3)).2.2.length)]))
           else (false, (pCond t (j + 3)).2.1, q))
         else (false, (pCond t (j + 3)).2.1, q))
       else (false, j + 2, q))
     else (false, j + 1, q))
  else (false, j, q)
def pTxt (t : Nat → Int32) : Nat → Nat → rQ → rL
  | 0, j, q => (true, j, q)
  | m + 1, j, q => if t j = 30000 then (true, j, q) else if (pLine t j q).1 = true then pTxt t m (pLine t j q).2.1 (pLine t j q).2.2 else (false, (pLine t j q).2.1, q)
def q00 : rQ := ([], none, [])
def pAll (t : Nat → Int32) : rL := if t 0 = 30000 then (false, 0, q00) else pTxt t 401 0 q00
def sl (cs : List Int32) (a b : Nat) : List Int32 := (cs.drop a).take (b - a)
theorem sl_l {cs x : List Int32} {a b : Nat} (h : b ≤ cs.length) (hab : a ≤ b) : sl (cs ++ x) a b = sl cs a b := by
  unfold sl
  rw [List.drop_append_of_le_length (by omega), List.take_append_of_le_length (by rw [List.length_drop]; omega)]
theorem sl_r {cs x : List Int32} : sl (cs ++ x) cs.length (cs.length + x.length) = x := by
  unfold sl
  rw [List.drop_left, Nat.add_sub_cancel_left, List.take_length]
/-- what rules keep: each piece can be worked out -/
def wfQ (q : rQ) : Prop := q.2.2.length ≤ 12 ∧ (∀ p, q.2.1 = some p → p.1 ≤ p.2 ∧ p.2 ≤ q.1.length ∧ okC (sl q.1 p.1 p.2) [] = true) ∧ ∀ p ∈ q.2.2, p.2.1 ≤ p.2.2 ∧ p.2.2 ≤ q.1.length ∧ okC (sl q.1 p.2.1 p.2.2) [] = true
theorem okC_of {cs : List Int32} {m : Nat} {ty : Bool} (h : seg cs m ty) (hm : m ≤ 24) : okC cs [] = true := by
  have := h [] [] (by simpa using hm) rfl
  rwa [List.append_nil] at this
theorem wfQ_0 : wfQ q00 := by
  refine ⟨by decide, fun p h => ?_, fun p h => ?_⟩
  · have h2 : (none : Option (Nat × Nat)) = some p := h
    cases h2
  · have h2 : p ∈ ([] : List (Int32 × Nat × Nat)) := h
    cases h2
section GL
variable {t : Nat → Int32} {T : Nat}
theorem gd_at (hT : t T = 30000) {j : Nat} {c : Int32} (hj : j ≤ T) (h : t j = c) (hc : ¬ c = 30000) : j < T := by
  by_cases e : j = T
  · rw [e, hT] at h; exact absurd h.symm hc
  · omega
theorem gd_line (hT : t T = 30000) {j : Nat} {q : rQ} (hj : j ≤ T) : j ≤ (pLine t j q).2.1 ∧ (pLine t j q).2.1 ≤ T ∧ ((pLine t j q).1 = true → j < (pLine t j q).2.1 ∧ (wfQ q → wfQ (pLine t j q).2.2)) := by
  unfold pLine
  by_cases c1 : t j = 10000 ∧ q.2.1 = none
  · rw [if_pos c1]
    have h1 := gd_at hT hj c1.1 (by decide)
    obtain ⟨f1, f2, f3⟩ := (gd_all (t := t) hT (k := 8) (by omega)).2.2 (j + 1) (by omega)
    by_cases c2 : (pSumD t 8 (j + 1)).1 = true
    rotate_left
    · rw [if_neg c2]; exact ⟨by show j ≤ (pSumD t 8 (j + 1)).2.1; omega, f2, fun w => ft w⟩
    rw [if_pos c2]
    by_cases c3 : t (pSumD t 8 (j + 1)).2.1 = 20059
    rotate_left
    · rw [if_neg c3]; exact ⟨by show j ≤ (pSumD t 8 (j + 1)).2.1; omega, f2, fun w => ft w⟩
    rw [if_pos c3]
    have h2 := gd_at hT f2 c3 (by decide)
    refine ⟨by show j ≤ (pSumD t 8 (j + 1)).2.1 + 1; omega, h2, fun _ => ⟨by show j < (pSumD t 8 (j + 1)).2.1 + 1; omega, fun hw => ⟨hw.1, fun p hp => ?_, fun p hp => ?_⟩⟩⟩
    · have hp2 : some (q.1.length, q.1.length + (pSumD t 8 (j + 1)).2.2.length) = some p := hp
      cases hp2
      show q.1.length ≤ q.1.length + (pSumD t 8 (j + 1)).2.2.length ∧ q.1.length + (pSumD t 8 (j + 1)).2.2.length ≤ (q.1 ++ (pSumD t 8 (j + 1)).2.2).length ∧ okC (sl (q.1 ++ (pSumD t 8 (j + 1)).2.2) q.1.length (q.1.length + (pSumD t 8 (j + 1)).2.2.length)) [] = true
      rw [sl_r, List.length_append]
      exact ⟨by omega, by omega, okC_of (f3 c2).2.2 (by omega)⟩
    · obtain ⟨w1, w2, w3⟩ := hw.2.2 p hp
      show p.2.1 ≤ p.2.2 ∧ p.2.2 ≤ (q.1 ++ (pSumD t 8 (j + 1)).2.2).length ∧ okC (sl (q.1 ++ (pSumD t 8 (j + 1)).2.2) p.2.1 p.2.2) [] = true
      rw [sl_l w2 w1, List.length_append]
      exact ⟨w1, by omega, w3⟩
  rw [if_neg c1]
  by_cases c2 : t j = 10001 ∧ q.2.2.length < 12
  rotate_left
  · rw [if_neg c2]; exact ⟨Nat.le_refl _, hj, fun w => ft w⟩
  rw [if_pos c2]
  have h1 := gd_at hT hj c2.1 (by decide)
  by_cases c3 : isKd (t (j + 1)) = true
  rotate_left
  · rw [if_neg c3]; exact ⟨by show j ≤ j + 1; omega, h1, fun w => ft w⟩
  rw [if_pos c3]
  have h2 : j + 1 < T := gd_at hT h1 rfl (fun e => by rw [e] at c3; exact absurd c3 (by decide))
  by_cases c4 : t (j + 2) = 10002
  rotate_left
  · rw [if_neg c4]; exact ⟨by show j ≤ j + 2; omega, h2, fun w => ft w⟩
  rw [if_pos c4]
  have h3 : j + 2 < T := gd_at hT h2 c4 (by decide)
  obtain ⟨f1, f2, f3⟩ := gd_cond (t := t) hT (j + 3) h3
  by_cases c5 : (pCond t (j + 3)).1 = true
  rotate_left
  · rw [if_neg c5]; exact ⟨by show j ≤ (pCond t (j + 3)).2.1; omega, f2, fun w => ft w⟩
  rw [if_pos c5]
  by_cases c6 : t (pCond t (j + 3)).2.1 = 20059
  rotate_left
  · rw [if_neg c6]; exact ⟨by show j ≤ (pCond t (j + 3)).2.1; omega, f2, fun w => ft w⟩
  rw [if_pos c6]
  have h4 := gd_at hT f2 c6 (by decide)
  refine ⟨by show j ≤ (pCond t (j + 3)).2.1 + 1; omega, h4, fun _ => ⟨by show j < (pCond t (j + 3)).2.1 + 1; omega, fun hw => ⟨by show (q.2.2 ++ [_]).length ≤ 12; rw [List.length_append, List.length_singleton]; omega, fun p hp => ?_, fun p hp => ?_⟩⟩⟩
  · obtain ⟨w1, w2, w3⟩ := hw.2.1 p hp
    show p.1 ≤ p.2 ∧ p.2 ≤ (q.1 ++ (pCond t (j + 3)).2.2).length ∧ okC (sl (q.1 ++ (pCond t (j + 3)).2.2) p.1 p.2) [] = true
    rw [sl_l w2 w1, List.length_append]
    exact ⟨w1, by omega, w3⟩
  · have hp2 : p ∈ q.2.2 ++ [(t (j + 1) - 10004, q.1.length, q.1.length + (pCond t (j + 3)).2.2.length)] := hp
    show p.2.1 ≤ p.2.2 ∧ p.2.2 ≤ (q.1 ++ (pCond t (j + 3)).2.2).length ∧ okC (sl (q.1 ++ (pCond t (j + 3)).2.2) p.2.1 p.2.2) [] = true
    rcases List.mem_append.mp hp2 with u | u
    · obtain ⟨w1, w2, w3⟩ := hw.2.2 p u
      rw [sl_l w2 w1, List.length_append]
      exact ⟨w1, by omega, w3⟩
    · rw [List.mem_singleton.mp u]
      show q.1.length ≤ q.1.length + (pCond t (j + 3)).2.2.length ∧ q.1.length + (pCond t (j + 3)).2.2.length ≤ (q.1 ++ (pCond t (j + 3)).2.2).length ∧ okC (sl (q.1 ++ (pCond t (j + 3)).2.2) q.1.length (q.1.length + (pCond t (j + 3)).2.2.length)) [] = true
      rw [sl_r, List.length_append]
      exact ⟨by omega, by omega, okC_of (f3 c5).2.2 (by omega)⟩
theorem gd_txt (hT : t T = 30000) : ∀ m j q, j ≤ T → wfQ q → (pTxt t m j q).2.1 ≤ T ∧ wfQ (pTxt t m j q).2.2 := by
  intro m
  induction m with
  | zero => intro j q hj hw; exact ⟨hj, hw⟩
  | succ m ih =>
    intro j q hj hw
    unfold pTxt
    by_cases c1 : t j = 30000
    · rw [if_pos c1]; exact ⟨hj, hw⟩
    rw [if_neg c1]
    obtain ⟨f1, f2, f3⟩ := gd_line (t := t) (q := q) hT hj
    by_cases c2 : (pLine t j q).1 = true
    · rw [if_pos c2]
      exact ih _ _ f2 ((f3 c2).2 hw)
    · rw [if_neg c2]; exact ⟨f2, hw⟩
theorem gd_pall (hT : t T = 30000) : (pAll t).2.1 ≤ T ∧ wfQ (pAll t).2.2 := by
  unfold pAll
  by_cases c : t 0 = 30000
  · rw [if_pos c]; exact ⟨Nat.zero_le _, wfQ_0⟩
  · rw [if_neg c]; exact gd_txt hT 401 0 q00 (Nat.zero_le _) wfQ_0
end GL
/-! ===== rules: the class reads lines ===== -/
def grC (o : Nat) (I : zM2) : Option (Nat × Nat) → Prop
  | none => I o 2 = 0
  | some p => I o 2 = 1 ∧ I o 3 = nI p.1 ∧ I o 4 = nI p.2
def clq (o : Nat) (I : zM2) (q : rQ) : Prop := grC o I q.2.1 ∧ I o 5 = nI q.2.2.length ∧ q.2.2.length ≤ 12 ∧ ∀ i, i < q.2.2.length → I (o + 2) i = (q.2.2.getD i (0, 0, 0)).1 ∧ I (o + 3) i = nI (q.2.2.getD i (0, 0, 0)).2.1 ∧ I (o + 4) i = nI (q.2.2.getD i (0, 0, 0)).2.2
def cln (o T : Nat) (f : Nat → Nat) (n : Nat) (s : zS) (j : Nat) (q : rQ) : Prop := cst o T f n s j q.1 ∧ clq o s.1 q
def lnS (o : Nat) : Nat → Nat → Prop := fun p k => (p = 75 ∧ k = 5) ∨ (o ≤ p ∧ p ≤ o + 4)
def jdS (o : Nat) : Nat → Nat → Prop := fun p k => p = 77 ∨ p = 78 ∨ (p = 75 ∧ (k = 4 ∨ k = 5)) ∨ (o ≤ p ∧ p ≤ o + 4)
theorem grC_c {o : Nat} {I I' : zM2} {w : Option (Nat × Nat)} (h2 : I' o 2 = I o 2) (h3 : I' o 3 = I o 3) (h4 : I' o 4 = I o 4) (h : grC o I w) : grC o I' w := by
  cases w with
  | none => unfold grC at *; rw [h2]; exact h
  | some p => unfold grC at *; rw [h2, h3, h4]; exact h
theorem clq_c {o : Nat} {I I' : zM2} {q : rQ} (h : ∀ k, 2 ≤ k → I' o k = I o k) (h2 : ∀ k, I' (o + 2) k = I (o + 2) k) (h3 : ∀ k, I' (o + 3) k = I (o + 3) k) (h4 : ∀ k, I' (o + 4) k = I (o + 4) k) (hq : clq o I q) : clq o I' q := by
  obtain ⟨a, b, c, e⟩ := hq
  refine ⟨grC_c (h 2 (by decide)) (h 3 (by decide)) (h 4 (by decide)) a, by rw [h 5 (by decide)]; exact b, c, fun i hi => ?_⟩
  rw [h2, h3, h4]
  exact e i hi
theorem clq_sn {o : Nat} (ho : o = 79 ∨ o = 85) {s s' : zS} {q : rQ} (hE : zE (snS o) s s') (hq : clq o s.1 q) : clq o s'.1 q :=
  clq_c (fun k hk => hE.2 _ _ (by unfold snS; omega)) (fun k => hE.2 _ _ (by unfold snS; omega)) (fun k => hE.2 _ _ (by unfold snS; omega)) (fun k => hE.2 _ _ (by unfold snS; omega)) hq
theorem zE_sn {o : Nat} {s s' : zS} (h : zE (snS o) s s') : zE (lnS o) s s' := zE_m h (fun p k w => by unfold snS at w; unfold lnS; omega)
theorem grow_0 {o : Nat} {I : zM2} {w : Option (Nat × Nat)} (h : grC o I w) : I o 2 = 0 ↔ w = none := by
  cases w with
  | none => exact ⟨fun _ => rfl, fun _ => h⟩
  | some p =>
    refine ⟨fun e => ?_, fun e => by cases e⟩
    have := h.1
    rw [this] at e
    exact absurd e (by decide)
theorem getD_snoc {α : Type} {cl : List α} {x e : α} {i : Nat} (hi : i < (cl ++ [x]).length) : (cl ++ [x]).getD i e = if i = cl.length then x else cl.getD i e := by
  rw [List.length_append, List.length_singleton] at hi
  rw [List.getD_eq_getElem?_getD, List.getD_eq_getElem?_getD]
  by_cases c : i = cl.length
  · rw [if_pos c, c]
    simp
  · rw [if_neg c, List.getElem?_append_left (by omega)]
section CLN
variable {l : Launch} {g : zG} {d o T : Nat} {f : Nat → Nat} {n : Nat} {s : zS} {j : Nat} {q : rQ}
theorem cst_c {s s' : zS} {cs : List Int32} (hR : s'.2.2.1 = s.2.2.1) (h75 : ∀ k, s'.1 75 k = s.1 75 k) (h77 : ∀ k, s'.1 77 k = s.1 77 k) (h78 : ∀ k, s'.1 78 k = s.1 78 k) (h1 : s'.1 o 1 = s.1 o 1) (h2 : ∀ k, s'.1 (o + 1) k = s.1 (o + 1) k) (h : cst o T f n s j cs) : cst o T f n s' j cs := by
  obtain ⟨a1, a2, a3, a4, a5, a6, a7, a8⟩ := h
  refine ⟨zRok_of hR a1, tksI_c (h75 4) h77 h78 a2, a3, by rw [h75]; exact a4, a5, by rw [h1]; exact a6, a7, fun i hi => by rw [h2]; exact a8 i hi⟩
theorem c_sum8 (ho : o = 79 ∨ o = 85) (hT : tkJ f n T = 30000) : cOK o T f n (pSumD (tkJ f n) 8) (fun s K => zc l g (d + 27) M_X2_readSum [.ref 75, .ref o, .int 0] s (zKz K)) := c_sumD (d := d) ho hT 8 (by omega)
theorem c_line (ho : o = 79 ∨ o = 85) (hT0 : tkJ f n T = 30000) (h : cln o T f n s j q) {K : Bool → zS → Prop}
    (hK1 : (pLine (tkJ f n) j q).1 = true → ∀ s', zE (lnS o) s s' → cln o T f n s' (pLine (tkJ f n) j q).2.1 (pLine (tkJ f n) j q).2.2 → K true s')
    (hK0 : (pLine (tkJ f n) j q).1 = false → ∀ s', zE (lnS o) s s' → s'.1 75 5 = nI (pLine (tkJ f n) j q).2.1 → K false s') :
    zc l g (d + 29) M_X2_readLine [.ref 75, .ref o] s (zKz K) := by
  obtain ⟨hc, hq⟩ := h
  have ho2 : ¬ 75 = o ∧ ¬ o = 75 ∧ ¬ o + 2 = 75 ∧ ¬ o + 3 = 75 ∧ ¬ o + 4 = 75 := by omega
  have h1 : s.1 o 1 = nI q.1.length := hc.2.2.2.2.2.1
  have gr0 := grow_0 hq.1
  refine t_X2_readLine hc.1 ho (c_token hc ⟨rfl, ?_⟩)
  by_cases c1 : tkJ f n j = 10000
  · rw [if_pos c1]
    by_cases c2 : s.1 o 2 = 0
    rotate_left
    · rw [if_neg c2]
      refine c_token hc ⟨rfl, ?_⟩
      rw [if_neg (by rw [c1]; decide)]
      have hp : pLine (tkJ f n) j q = (false, j, q) := by
        unfold pLine
        rw [if_neg (fun w => c2 (gr0.mpr w.2)), if_neg (fun w => by rw [c1] at w; exact absurd w.1 (by decide))]
      rw [hp] at hK0
      exact hK0 rfl s zE_r hc.2.2.2.1
    rw [if_pos c2]
    have hg := gr0.mp c2
    have hlt : j < T := cst_lt hc c1 (by decide)
    obtain ⟨a1, a2, a3⟩ := cst_adv ho hc hlt
    rw [a1]
    refine c_sum8 (d := d + 1) ho hT0 _ (j + 1) _ _ a3 (fun r1 s1 hE1 hc1 => ⟨zE_R (zE_t a2 hE1), ?_⟩) (fun r1 s1 hE1 h5 => ⟨zE_R (zE_t a2 hE1), ?_⟩)
    rotate_left
    · rw [if_neg (by decide)]
      have hp : pLine (tkJ f n) j q = (false, (pSumD (tkJ f n) 8 (j + 1)).2.1, q) := by
        unfold pLine
        rw [if_pos ⟨c1, hg⟩, if_neg (by rw [r1]; decide)]
      rw [hp] at hK0
      exact hK0 rfl s1 (zE_sn (zE_t a2 hE1)) h5
    rw [if_pos rfl]
    have hE01 := zE_t a2 hE1
    have hq1 := clq_sn ho hE01 hq
    have h11 : s1.1 o 1 = nI (q.1.length + (pSumD (tkJ f n) 8 (j + 1)).2.2.length) := by
      rw [hc1.2.2.2.2.2.1, List.length_append]
    rw [h1]
    refine t_X3_setGrow hc1.1 ho ⟨rfl, ?_⟩
    rw [h11]
    have z : ∀ p k, ¬ p = o → (zI (zI (zI s1 o 2 1) o 3 (nI q.1.length)) o 4 (nI (q.1.length + (pSumD (tkJ f n) 8 (j + 1)).2.2.length))).1 p k = s1.1 p k := fun p k w => by rw [zI_o w, zI_o w, zI_o w]
    have z1 : ∀ k, ¬ k = 2 → ¬ k = 3 → ¬ k = 4 → (zI (zI (zI s1 o 2 1) o 3 (nI q.1.length)) o 4 (nI (q.1.length + (pSumD (tkJ f n) 8 (j + 1)).2.2.length))).1 o k = s1.1 o k := fun k w1 w2 w3 => by rw [zI_k w3, zI_k w2, zI_k w1]
    have v2 : (zI (zI (zI s1 o 2 1) o 3 (nI q.1.length)) o 4 (nI (q.1.length + (pSumD (tkJ f n) 8 (j + 1)).2.2.length))).1 o 2 = 1 := by rw [zI_k (by decide), zI_k (by decide), zI_eq]
    have v3 : (zI (zI (zI s1 o 2 1) o 3 (nI q.1.length)) o 4 (nI (q.1.length + (pSumD (tkJ f n) 8 (j + 1)).2.2.length))).1 o 3 = nI q.1.length := by rw [zI_k (by decide), zI_eq]
    have v4 : (zI (zI (zI s1 o 2 1) o 3 (nI q.1.length)) o 4 (nI (q.1.length + (pSumD (tkJ f n) 8 (j + 1)).2.2.length))).1 o 4 = nI (q.1.length + (pSumD (tkJ f n) 8 (j + 1)).2.2.length) := by rw [zI_eq]
    have hE12 : zE (lnS o) s1 (zI (zI (zI s1 o 2 1) o 3 (nI q.1.length)) o 4 (nI (q.1.length + (pSumD (tkJ f n) 8 (j + 1)).2.2.length))) :=
      zE_i (zE_i (zE_i0 (Or.inr ⟨Nat.le_refl _, by omega⟩)) (Or.inr ⟨Nat.le_refl _, by omega⟩)) (Or.inr ⟨Nat.le_refl _, by omega⟩)
    generalize zI (zI (zI s1 o 2 1) o 3 (nI q.1.length)) o 4 (nI (q.1.length + (pSumD (tkJ f n) 8 (j + 1)).2.2.length)) = s2 at *
    have hc2 : cst o T f n s2 (pSumD (tkJ f n) 8 (j + 1)).2.1 (q.1 ++ (pSumD (tkJ f n) 8 (j + 1)).2.2) :=
      cst_c (zE_R hE12) (fun k => z _ _ ho2.1) (fun k => z _ _ (by omega)) (fun k => z _ _ (by omega)) (z1 1 (by decide) (by decide) (by decide)) (fun k => z _ _ (by omega)) hc1
    have hq2 : clq o s2.1 (q.1 ++ (pSumD (tkJ f n) 8 (j + 1)).2.2, some (q.1.length, q.1.length + (pSumD (tkJ f n) 8 (j + 1)).2.2.length), q.2.2) :=
      ⟨⟨v2, v3, v4⟩, by rw [z1 5 (by decide) (by decide) (by decide)]; exact hq1.2.1, hq1.2.2.1, fun i hi => by rw [z _ _ (by omega), z _ _ (by omega), z _ _ (by omega)]; exact hq1.2.2.2 i hi⟩
    have hE02 := zE_t (zE_sn hE01) hE12
    refine c_take ho hc2 (by decide) (fun c5 c6 hE3 hc3 => ⟨rfl, ?_⟩) (fun c5 => ⟨rfl, ?_⟩)
    · have hp : pLine (tkJ f n) j q = (true, (pSumD (tkJ f n) 8 (j + 1)).2.1 + 1, (q.1 ++ (pSumD (tkJ f n) 8 (j + 1)).2.2, some (q.1.length, q.1.length + (pSumD (tkJ f n) 8 (j + 1)).2.2.length), q.2.2)) := by
        unfold pLine
        rw [if_pos ⟨c1, hg⟩, if_pos r1, if_pos c5]
      rw [hp] at hK1
      exact hK1 rfl _ (zE_t hE02 (zE_sn hE3)) ⟨hc3, clq_sn ho hE3 hq2⟩
    · have hp : pLine (tkJ f n) j q = (false, (pSumD (tkJ f n) 8 (j + 1)).2.1, q) := by
        unfold pLine
        rw [if_pos ⟨c1, hg⟩, if_pos r1, if_neg c5]
      rw [hp] at hK0
      exact hK0 rfl s2 hE02 hc2.2.2.2.1
  rw [if_neg c1]
  refine c_token hc ⟨rfl, ?_⟩
  have n1 : ¬ (tkJ f n j = 10000 ∧ q.2.1 = none) := fun w => c1 w.1
  by_cases c2 : tkJ f n j = 10001
  rotate_left
  · rw [if_neg c2]
    have hp : pLine (tkJ f n) j q = (false, j, q) := by
      unfold pLine
      rw [if_neg n1, if_neg (fun w => c2 w.1)]
    rw [hp] at hK0
    exact hK0 rfl s zE_r hc.2.2.2.1
  rw [if_pos c2, hq.2.1]
  by_cases c3 : q.2.2.length < 12
  rotate_left
  · rw [if_neg (lit_nlt (a := q.2.2.length) (c := 12) (b := 12) rfl (by omega) (by have := hq.2.2.1; omega))]
    have hp : pLine (tkJ f n) j q = (false, j, q) := by
      unfold pLine
      rw [if_neg n1, if_neg (fun w => c3 w.2)]
    rw [hp] at hK0
    exact hK0 rfl s zE_r hc.2.2.2.1
  rw [if_pos (lit_lt (a := q.2.2.length) (c := 12) (b := 12) rfl c3 (by decide))]
  have hlt : j < T := cst_lt hc c2 (by decide)
  obtain ⟨a1, a2, a3⟩ := cst_adv ho hc hlt
  rw [a1]
  refine c_token a3 ⟨rfl, ?_⟩
  have rejK : ¬ isKd (tkJ f n (j + 1)) = true → K false (zI s 75 5 (nI (j + 1))) := by
    intro w
    have hp : pLine (tkJ f n) j q = (false, j + 1, q) := by
      unfold pLine
      rw [if_neg n1, if_pos ⟨c2, c3⟩, if_neg w]
    rw [hp] at hK0
    exact hK0 rfl _ (zE_sn a2) a3.2.2.2.1
  have t0 := tk_pos f n (j + 1)
  have e4 : (tkJ f n (j + 1) - 10004).toInt = (tkJ f n (j + 1)).toInt - 10004 := by
    have e : (10004 : Int32).toInt = 10004 := rfl
    rw [ti_le] at t0
    have t0' : 0 ≤ (tkJ f n (j + 1)).toInt := t0
    have t1 := (ti_rng (tkJ f n (j + 1))).2
    rw [ti_sub (by rw [e]; omega) (by rw [e]; omega), e]
  have hk : isKd (tkJ f n (j + 1)) = true ↔ (0 ≤ (tkJ f n (j + 1) - 10004).toInt ∧ (tkJ f n (j + 1) - 10004).toInt < 7) := by
    rw [isKd_i, ti_le, ti_lt, e4, show (10004 : Int32).toInt = 10004 from rfl, show (10011 : Int32).toInt = 10011 from rfl]
    omega
  by_cases c4 : tkJ f n (j + 1) - 10004 < 0
  · rw [if_pos c4]
    exact rejK (fun w => by rw [hk] at w; rw [ti_lt, til.1] at c4; omega)
  rw [if_neg c4]
  by_cases c5 : tkJ f n (j + 1) - 10004 < 7
  rotate_left
  · rw [if_neg c5]
    exact rejK (fun w => by rw [hk] at w; rw [ti_lt, show (7 : Int32).toInt = 7 from rfl] at c5; omega)
  rw [if_pos c5]
  have ck : isKd (tkJ f n (j + 1)) = true := by
    rw [hk]
    rw [ti_lt, til.1] at c4
    rw [ti_lt, show (7 : Int32).toInt = 7 from rfl] at c5
    omega
  have hlt1 : j + 1 < T := cst_lt a3 rfl (fun e => by rw [e] at ck; exact absurd ck (by decide))
  obtain ⟨b1, b2, b3⟩ := cst_adv ho a3 hlt1
  rw [b1]
  have hE02 := zE_t a2 b2
  refine c_take ho b3 (by decide) (fun c6 c7 hE3 hc3 => ⟨rfl, ?_⟩) (fun c6 => ⟨rfl, ?_⟩)
  rotate_left
  · rw [if_neg (by decide)]
    have hp : pLine (tkJ f n) j q = (false, j + 2, q) := by
      unfold pLine
      rw [if_neg n1, if_pos ⟨c2, c3⟩, if_pos ck, if_neg c6]
    rw [hp] at hK0
    exact hK0 rfl _ (zE_sn hE02) b3.2.2.2.1
  rw [if_pos rfl]
  have hE03 := zE_t hE02 hE3
  refine c_cond (d := d) ho hT0 _ (j + 1 + 1 + 1) _ _ hc3 (fun r1 s4 hE4 hc4 => ⟨zE_R hE4, ?_⟩) (fun r1 s4 hE4 h5 => ⟨zE_R hE4, ?_⟩)
  rotate_left
  · rw [if_neg (by decide)]
    have hp : pLine (tkJ f n) j q = (false, (pCond (tkJ f n) (j + 3)).2.1, q) := by
      unfold pLine
      rw [if_neg n1, if_pos ⟨c2, c3⟩, if_pos ck, if_pos c6, if_neg (by rw [r1]; decide)]
    rw [hp] at hK0
    exact hK0 rfl s4 (zE_sn (zE_t hE03 hE4)) h5
  rw [if_pos rfl]
  have hE04 := zE_t hE03 hE4
  have hq4 := clq_sn ho hE04 hq
  have h14 : s4.1 o 1 = nI (q.1.length + (pCond (tkJ f n) (j + 3)).2.2.length) := by
    rw [hc4.2.2.2.2.2.1, List.length_append]
  rw [h1]
  refine t_X3_addClause hc4.1 ho ?_
  have y1 : ∀ (σ : zS) (p k : Nat) (v : Int32), ¬ p = o → (zI σ p k v).1 o 5 = σ.1 o 5 := fun σ p k v w => zI_o (fun e => w e.symm)
  have y2 : ∀ (σ : zS) (p k : Nat) (v : Int32), ¬ p = o → (zI σ p k v).1 o 1 = σ.1 o 1 := fun σ p k v w => zI_o (fun e => w e.symm)
  have hv : vp_in (nI q.2.2.length) 12 := vp_in_nI c3 (by decide)
  simp only [y1 _ (o + 2) _ _ (by omega), y1 _ (o + 3) _ _ (by omega), y1 _ (o + 4) _ _ (by omega), y2 _ (o + 2) _ _ (by omega), y2 _ (o + 3) _ _ (by omega), y2 _ (o + 4) _ _ (by omega), hq4.2.1, h14]
  rw [if_neg (lit_ge (a := q.2.2.length) (c := 12) (b := 12) rfl c3 (by decide)), nI_clamp (by omega), ← nI_succ]
  refine ⟨hv, hv, hv, rfl, ?_⟩
  have hE45 : zE (lnS o) s4 (zI (zI (zI (zI s4 (o + 2) q.2.2.length (tkJ f n (j + 1) - 10004)) (o + 3) q.2.2.length (nI q.1.length)) (o + 4) q.2.2.length (nI (q.1.length + (pCond (tkJ f n) (j + 3)).2.2.length))) o 5 (nI (q.2.2.length + 1))) :=
    zE_i (zE_i (zE_i (zE_i0 (Or.inr ⟨by omega, by omega⟩)) (Or.inr ⟨by omega, by omega⟩)) (Or.inr ⟨by omega, by omega⟩)) (Or.inr ⟨by omega, by omega⟩)
  have x0 : ∀ p k, ¬ p = o → ¬ p = o + 2 → ¬ p = o + 3 → ¬ p = o + 4 → (zI (zI (zI (zI s4 (o + 2) q.2.2.length (tkJ f n (j + 1) - 10004)) (o + 3) q.2.2.length (nI q.1.length)) (o + 4) q.2.2.length (nI (q.1.length + (pCond (tkJ f n) (j + 3)).2.2.length))) o 5 (nI (q.2.2.length + 1))).1 p k = s4.1 p k := fun p k w0 w2 w3 w4 => by rw [zI_o w0, zI_o w4, zI_o w3, zI_o w2]
  have x1 : ∀ k, ¬ k = 5 → (zI (zI (zI (zI s4 (o + 2) q.2.2.length (tkJ f n (j + 1) - 10004)) (o + 3) q.2.2.length (nI q.1.length)) (o + 4) q.2.2.length (nI (q.1.length + (pCond (tkJ f n) (j + 3)).2.2.length))) o 5 (nI (q.2.2.length + 1))).1 o k = s4.1 o k := fun k w => by rw [zI_k w, zI_o (by omega), zI_o (by omega), zI_o (by omega)]
  have x5 : (zI (zI (zI (zI s4 (o + 2) q.2.2.length (tkJ f n (j + 1) - 10004)) (o + 3) q.2.2.length (nI q.1.length)) (o + 4) q.2.2.length (nI (q.1.length + (pCond (tkJ f n) (j + 3)).2.2.length))) o 5 (nI (q.2.2.length + 1))).1 o 5 = nI (q.2.2.length + 1) := zI_eq
  have x2 : ∀ i, (zI (zI (zI (zI s4 (o + 2) q.2.2.length (tkJ f n (j + 1) - 10004)) (o + 3) q.2.2.length (nI q.1.length)) (o + 4) q.2.2.length (nI (q.1.length + (pCond (tkJ f n) (j + 3)).2.2.length))) o 5 (nI (q.2.2.length + 1))).1 (o + 2) i = if i = q.2.2.length then tkJ f n (j + 1) - 10004 else s4.1 (o + 2) i := fun i => by
    rw [zI_o (by omega), zI_o (by omega), zI_o (by omega)]
    by_cases w : i = q.2.2.length
    · rw [if_pos w, w, zI_eq]
    · rw [if_neg w, zI_k w]
  have x3 : ∀ i, (zI (zI (zI (zI s4 (o + 2) q.2.2.length (tkJ f n (j + 1) - 10004)) (o + 3) q.2.2.length (nI q.1.length)) (o + 4) q.2.2.length (nI (q.1.length + (pCond (tkJ f n) (j + 3)).2.2.length))) o 5 (nI (q.2.2.length + 1))).1 (o + 3) i = if i = q.2.2.length then nI q.1.length else s4.1 (o + 3) i := fun i => by
    rw [zI_o (by omega), zI_o (by omega)]
    by_cases w : i = q.2.2.length
    · rw [if_pos w, w, zI_eq]
    · rw [if_neg w, zI_k w, zI_o (by omega)]
  have x4 : ∀ i, (zI (zI (zI (zI s4 (o + 2) q.2.2.length (tkJ f n (j + 1) - 10004)) (o + 3) q.2.2.length (nI q.1.length)) (o + 4) q.2.2.length (nI (q.1.length + (pCond (tkJ f n) (j + 3)).2.2.length))) o 5 (nI (q.2.2.length + 1))).1 (o + 4) i = if i = q.2.2.length then nI (q.1.length + (pCond (tkJ f n) (j + 3)).2.2.length) else s4.1 (o + 4) i := fun i => by
    rw [zI_o (by omega)]
    by_cases w : i = q.2.2.length
    · rw [if_pos w, w, zI_eq]
    · rw [if_neg w, zI_k w, zI_o (by omega), zI_o (by omega)]
  generalize zI (zI (zI (zI s4 (o + 2) q.2.2.length (tkJ f n (j + 1) - 10004)) (o + 3) q.2.2.length (nI q.1.length)) (o + 4) q.2.2.length (nI (q.1.length + (pCond (tkJ f n) (j + 3)).2.2.length))) o 5 (nI (q.2.2.length + 1)) = s5 at *
  have hc5 : cst o T f n s5 (pCond (tkJ f n) (j + 3)).2.1 (q.1 ++ (pCond (tkJ f n) (j + 3)).2.2) :=
    cst_c (zE_R hE45) (fun k => x0 _ _ (by omega) (by omega) (by omega) (by omega)) (fun k => x0 _ _ (by omega) (by omega) (by omega) (by omega)) (fun k => x0 _ _ (by omega) (by omega) (by omega) (by omega)) (x1 1 (by decide)) (fun k => x0 _ _ (by omega) (by omega) (by omega) (by omega)) hc4
  have hq5 : clq o s5.1 (q.1 ++ (pCond (tkJ f n) (j + 3)).2.2, q.2.1, q.2.2 ++ [(tkJ f n (j + 1) - 10004, q.1.length, q.1.length + (pCond (tkJ f n) (j + 3)).2.2.length)]) := by
    refine ⟨grC_c (x1 2 (by decide)) (x1 3 (by decide)) (x1 4 (by decide)) hq4.1, ?_, ?_, fun i hi => ?_⟩
    · rw [x5]
      show nI (q.2.2.length + 1) = nI (q.2.2 ++ [_]).length
      rw [List.length_append, List.length_singleton]
    · show (q.2.2 ++ [_]).length ≤ 12
      rw [List.length_append, List.length_singleton]; omega
    · have hi2 : i < (q.2.2 ++ [(tkJ f n (j + 1) - 10004, q.1.length, q.1.length + (pCond (tkJ f n) (j + 3)).2.2.length)]).length := hi
      show s5.1 (o + 2) i = ((q.2.2 ++ [(tkJ f n (j + 1) - 10004, q.1.length, q.1.length + (pCond (tkJ f n) (j + 3)).2.2.length)]).getD i (0, 0, 0)).1 ∧ s5.1 (o + 3) i = nI ((q.2.2 ++ [(tkJ f n (j + 1) - 10004, q.1.length, q.1.length + (pCond (tkJ f n) (j + 3)).2.2.length)]).getD i (0, 0, 0)).2.1 ∧ s5.1 (o + 4) i = nI ((q.2.2 ++ [(tkJ f n (j + 1) - 10004, q.1.length, q.1.length + (pCond (tkJ f n) (j + 3)).2.2.length)]).getD i (0, 0, 0)).2.2
      rw [getD_snoc hi2, x2, x3, x4]
      by_cases w : i = q.2.2.length
      · rw [if_pos w, if_pos w, if_pos w, if_pos w]; exact ⟨rfl, rfl, rfl⟩
      · rw [if_neg w, if_neg w, if_neg w, if_neg w]
        rw [List.length_append, List.length_singleton] at hi2
        exact hq4.2.2.2 i (by omega)
  have hE05 := zE_t (zE_sn hE04) hE45
  refine c_take ho hc5 (by decide) (fun e5 e6 hE6 hc6 => ⟨rfl, ?_⟩) (fun e5 => ⟨rfl, ?_⟩)
  · have hp : pLine (tkJ f n) j q = (true, (pCond (tkJ f n) (j + 3)).2.1 + 1, (q.1 ++ (pCond (tkJ f n) (j + 3)).2.2, q.2.1, q.2.2 ++ [(tkJ f n (j + 1) - 10004, q.1.length, q.1.length + (pCond (tkJ f n) (j + 3)).2.2.length)])) := by
      unfold pLine
      rw [if_neg n1, if_pos ⟨c2, c3⟩, if_pos ck, if_pos c6, if_pos r1, if_pos e5]
    rw [hp] at hK1
    exact hK1 rfl _ (zE_t hE05 (zE_sn hE6)) ⟨hc6, clq_sn ho hE6 hq5⟩
  · have hp : pLine (tkJ f n) j q = (false, (pCond (tkJ f n) (j + 3)).2.1, q) := by
      unfold pLine
      rw [if_neg n1, if_pos ⟨c2, c3⟩, if_pos ck, if_pos c6, if_pos r1, if_neg e5]
    rw [hp] at hK0
    exact hK0 rfl s5 hE05 hc5.2.2.2.1
end CLN
