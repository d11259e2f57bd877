/-! ===== calls ===== -/
section ZE
variable {l : Launch} {g : zG} {d z0 z1 : Nat} {M : zM} {pc pn : Nat} {ls st : List Value} {σ : zS} {K : Option Value → zS → Prop}
theorem zPc_blind {y0 : Nat} {as : List Value} : FrameBlind (zPc g y0 as σ) := fun _ U gf mk h => ⟨h.1, h.2.1, h.2.2.1, zK_same (s := U) (U := U.calling gf mk _) rfl rfl h.2.2.2⟩
theorem zws_good {M' : zM} {n : Nat} (hk : zMk M' n) : GoodIn lw_g (zws M') := fun w hw => by
  rcases List.mem_cons.mp hw with h | h
  · subst h
    exact ⟨hk.1, good_of_word (lw_g_good _ hk.1)⟩
  · exact ⟨h, good_of_word (lw_g_good w h)⟩
theorem zmv_toList (v : Option Value) (st : List Value) : (v.map (zmv g)).toList ++ st.map (zmv g) = (v.toList ++ st).map (zmv g) := by
  cases v <;> rfl
theorem z_run {y0 y1 : Nat} {K' : Option Value → zS → Prop} {a9 : Array Value} {stk : List Value} {p : Program} {e : Env} {R : Room} {s : State} {m : MethodId} {args : Array Value} {below : List Frame} {meth : Method} {c9 : Code} {Q : State → Prop} (C : zC l g (d + 1) z0 z1 M K p e R s m args below meth c9 Q) {H : Heap} {locs : List Loc} {mls : Array Slot}
    (hrun : va_Run p l e R s m args below meth c9 H locs (σ.2.2.2 - z0) (zSS σ.2.2.2 - zSS z0) (y1 - y0) (zSS y1 - zSS y0) (F0 m pc mls stk) (st.map (zmv g)) (zQc g y1 K' a9) (zA g))
    (hy : σ.2.2.2 = y0) (hz : y0 ≤ y1) (hy1 : y1 ≤ z1) (h2 : z0 ≤ σ.2.2.2) (h4 : va_S (zA g) s.heap H locs) (h5 : zL g M.2.2.1 ls mls)
    (kk : ∀ v σ', K' v σ' → zAt l g (d + 1) z0 z1 M (pc + 3) ls (v.toList ++ st) σ' K) : W p l e R s m args below meth c9 H locs (σ.2.2.2 - z0) (zSS σ.2.2.2 - zSS z0) Q (F0 m pc mls stk) := by
  intro T hT X
  obtain ⟨v9, st₀, t, T', L, g0, X', hL, e1, e2, hq, go⟩ := hrun T hT X
  obtain ⟨⟨v, σ', hv, hK', hW', hN'⟩, hz9, hk9⟩ := hq
  cases hv
  rw [g0] at hz9 hk9
  subst hy
  have hS' : va_S (zA g) s.heap T'.heap (locs ++ L) := ⟨Nat.le_trans h4.1 (by rw [e1]; exact hz9), fun q q1 q2 => by rw [e1, hk9 q (Nat.lt_of_lt_of_le q1 h4.1) q2]; exact h4.2.1 q q1 q2, fun q hq => by
      rcases List.mem_append.mp hq with h | h
      · exact h4.2.2 q h
      · exact hL q h⟩
  have hc1 : σ.2.2.2 - z0 + (y1 - σ.2.2.2) = σ'.2.2.2 - z0 := by omega
  have hc2 : zSS σ.2.2.2 - zSS z0 + (zSS y1 - zSS σ.2.2.2) = zSS σ'.2.2.2 - zSS z0 := by
    have a1 := zSS_mono h2
    have a2 := zSS_mono hz
    rw [hN']
    omega
  rw [hc1, hc2] at X'
  obtain ⟨t2, a1, b1⟩ := kk v σ' hK' p e R s m args below meth c9 Q C T'.heap (locs ++ L) mls (by rw [e1]; exact hW') (by omega) (by omega) hS' h5 T' rfl X'
  have go2 : Goes p e below T (F0 m pc mls stk) T' (F0 m (pc + 3) mls ((v.map (zmv g)).toList ++ st.map (zmv g))) := go
  rw [zmv_toList] at go2
  exact ⟨t2, go2 t2 a1, b1⟩
theorem zK_at {s : State} {H : Heap} {locs : List Loc} (hK : zK g s) (h4 : va_S (zA g) s.heap H locs) (U : State) (hU : U.heap = H) (hW : s.WarmedH U.vm) : zK g U := zK_moved hW (fun a q1 q2 => by rw [hU]; exact h4.2.1 a q1 q2) hK
/-- what is called is an object of class cls -/
def zRec (g : zG) (z0 : Nat) (σ : zS) (b : Nat) (cls : String) : Prop := ∀ (s : State) (H : Heap) (locs : List Loc), zK g s → zW g σ H → z0 ≤ σ.2.2.2 → va_S (zA g) s.heap H locs → ∃ cellB : Cell, H[zad g b]? = some cellB ∧ cellB.vm.isStatics = false ∧ s.vm.findClass cls = some cellB.cls
theorem zRec_of {c b : Nat} (h : zIs σ z0 c b) : zRec g z0 σ b (zRn c) := fun s H locs hK hW hz hS => by
  have hP := hW.2 b h.2.2.1 (h.2.2.2 hz)
  rw [zcell_o h] at hP
  exact va_recv hK.1 (zP1 hP) h.1.1 (q0 := 0) rfl
theorem zcat_map (st : List Value) : ((st.map (zmv g)).map fun v => v.category).sum = (st.map fun v => v.category).sum := by
  rw [List.map_map]
  congr 1
  exact List.map_congr_left fun v _ => zmv_cat g v
theorem z_callV {i n b y0 y1 : Nat} {M' : zM} {as stk : List Value} {K' : Option Value → zS → Prop} (hk : zMk M' n) (hl : zLkV M.1.cls i M') (hrec : zRec g z0 σ b M'.1.cls) (hlen : as.length = n) (hcall : zCall l g d y0 y1 M' (.ref b :: as) σ K') (hs : as.reverse ++ .ref b :: st = stk) (hst : (st.map fun v => v.category).sum ≤ 8) (hd : decode M.2.1 pc = .ok (.invokevirtual i, 3)) (hy : z0 ≤ σ.2.2.2 → σ.2.2.2 ≤ z1 → σ.2.2.2 = y0 ∧ y0 ≤ y1 ∧ y1 ≤ z1) (hn : pc + 3 = pn)
    (kk : ∀ v σ', K' v σ' → zAt l g (d + 1) z0 z1 M pn ls (v.toList ++ st) σ' K) : zAt l g (d + 1) z0 z1 M pc ls stk σ K := by
  subst hn
  subst hs
  intro p e R s m args below meth c9 Q C H locs mls h1 h2 h3 h4 h5
  obtain ⟨g1, g2, g3⟩ := hy h2 h3
  obtain ⟨r1, r2, r3, r4⟩ := C.2.2.2.2.2.2.2.1
  have hts := C.2.2.2.1
  have cb := callB_of (R := R) (s := s) (args := args) (own := M.1.cls) (index := i) (y := M'.1) (bytes := M'.2.1) (maxL := M'.2.2.1) (ret := M'.2.2.2) (ws := zws M') (rm := zRm d y0 y1) (mc := y1 - y0) (ms := zSS y1 - zSS y0) n hts (zws_good hk) rfl rfl rfl (hts _ hk.2.1) (hts _ hl.1) hk.2.2.1 ⟨r1, by have := hk.2.2.2.2; show 8 + (M'.2.2.1 + 11) + 100 * d ≤ R.locals; omega⟩
  have hrun := va_runV (S := ⟨C.1, C.2.1, C.2.2.1, C.2.2.2.2.1, hts⟩) hcall (C := M'.1.cls) (cells := σ.2.2.2 - z0) (slots := zSS σ.2.2.2 - zSS z0) (locs := locs) (e := e) (below := below) (meth := meth) (b := zad g b) (As := as.map (zmv g)) (rest := st.map (zmv g)) (g := F0 m pc mls ((as.reverse ++ .ref b :: st).map (zmv g))) (H := H) ⟨cb, hts _ hl.2.1, hts _ hl.2.2⟩
    ⟨zPc_blind, hrec s H locs C.2.2.2.2.2.2.1 h1 h2 h4, fun U hU hW => ⟨rfl, by rw [hU]; exact h1, g1, zK_at C.2.2.2.2.2.2.1 h4 U hU hW⟩⟩ rfl (by simpa using hlen) h5.1 (by simp [zmv]) (by rw [zcat_map]; exact lv_room hst) hd (by
      have a1 := zSS_mono h2
      have a2 := zSS_mono g2
      have a3 := zSS_mono g3
      rw [← g1] at a2 ⊢
      exact ⟨by omega, by omega⟩)
  exact z_run C hrun g1 g2 g3 h2 h4 h5 kk
theorem z_callS {i n y0 y1 : Nat} {M' : zM} {as stk : List Value} {K' : Option Value → zS → Prop} (hk : zMk M' n) (hl : zLkS M.1.cls i M') (hlen : as.length = n) (hcall : zCall l g d y0 y1 M' as σ K') (hs : as.reverse ++ st = stk) (hst : (st.map fun v => v.category).sum ≤ 8) (hd : decode M.2.1 pc = .ok (.invokestatic i, 3)) (hy : z0 ≤ σ.2.2.2 → σ.2.2.2 ≤ z1 → σ.2.2.2 = y0 ∧ y0 ≤ y1 ∧ y1 ≤ z1) (hn : pc + 3 = pn)
    (kk : ∀ v σ', K' v σ' → zAt l g (d + 1) z0 z1 M pn ls (v.toList ++ st) σ' K) : zAt l g (d + 1) z0 z1 M pc ls stk σ K := by
  subst hn
  subst hs
  intro p e R s m args below meth c9 Q C H locs mls h1 h2 h3 h4 h5
  obtain ⟨g1, g2, g3⟩ := hy h2 h3
  obtain ⟨r1, r2, r3, r4⟩ := C.2.2.2.2.2.2.2.1
  have hts := C.2.2.2.1
  have cb := callB_of (R := R) (s := s) (args := args) (own := M.1.cls) (index := i) (y := M'.1) (bytes := M'.2.1) (maxL := M'.2.2.1) (ret := M'.2.2.2) (ws := zws M') (rm := zRm d y0 y1) (mc := y1 - y0) (ms := zSS y1 - zSS y0) n hts (zws_good hk) rfl rfl rfl (hts _ hk.2.1) (hts _ hl.1) hk.2.2.1 ⟨r1, by have := hk.2.2.2.2; show 8 + (M'.2.2.1 + 11) + 100 * d ≤ R.locals; omega⟩
  have hrun := va_runS (S := ⟨C.1, C.2.1, C.2.2.1, C.2.2.2.2.1, hts⟩) hcall (cells := σ.2.2.2 - z0) (slots := zSS σ.2.2.2 - zSS z0) (locs := locs) (e := e) (below := below) (meth := meth) (As := as.map (zmv g)) (rest := st.map (zmv g)) (g := F0 m pc mls ((as.reverse ++ st).map (zmv g))) (H := H) ⟨cb, hts _ hl.2⟩
    ⟨zPc_blind, fun U hU hW => ⟨rfl, by rw [hU]; exact h1, g1, zK_at C.2.2.2.2.2.2.1 h4 U hU hW⟩⟩ rfl (by simpa using hlen) h5.1 (by simp) (by rw [zcat_map]; exact lv_room hst) hd (by
      have a1 := zSS_mono h2
      have a2 := zSS_mono g2
      have a3 := zSS_mono g3
      rw [← g1] at a2 ⊢
      exact ⟨by omega, by omega⟩)
  exact z_run C hrun g1 g2 g3 h2 h4 h5 kk
theorem z_callSN {i n y0 y1 : Nat} {M' : zM} {as stk : List Value} {K' : Option Value → zS → Prop} (hk : zMk M' n) (hl : zLkSN M.1.cls i M') (hlen : as.length = n) (hcall : zCall l g d y0 y1 M' as σ K') (hs : as.reverse ++ st = stk) (hst : (st.map fun v => v.category).sum ≤ 8) (hd : decode M.2.1 pc = .ok (.invokestatic i, 3)) (hy : z0 ≤ σ.2.2.2 → σ.2.2.2 ≤ z1 → σ.2.2.2 = y0 ∧ y0 ≤ y1 ∧ y1 ≤ z1) (hn : pc + 3 = pn)
    (kk : ∀ v σ', K' v σ' → zAt l g (d + 1) z0 z1 M pn ls (v.toList ++ st) σ' K) : zAt l g (d + 1) z0 z1 M pc ls stk σ K := by
  subst hn
  subst hs
  obtain ⟨host, hl1, hl2⟩ := hl
  intro p e R s m args below meth c9 Q C H locs mls h1 h2 h3 h4 h5
  obtain ⟨g1, g2, g3⟩ := hy h2 h3
  obtain ⟨r1, r2, r3, r4⟩ := C.2.2.2.2.2.2.2.1
  have hts := C.2.2.2.1
  have hw : va_Nw (.methodLinkNest M.1.cls i M'.1 host) s := C.2.2.2.2.2.2.1.2.1 _ hl1
  have cb := va_cnB (R := R) (args := args) (own := M.1.cls) (index := i) (y := M'.1) (bytes := M'.2.1) (maxL := M'.2.2.1) (ret := M'.2.2.2) (ws := zws M') (rm := zRm d y0 y1) (mc := y1 - y0) (ms := zSS y1 - zSS y0) n hts (zws_good hk) rfl rfl rfl hw (hts _ hk.2.1) hk.2.2.1 ⟨r1, by have := hk.2.2.2.2; show 8 + (M'.2.2.1 + 11) + 100 * d ≤ R.locals; omega⟩
  have hrun := va_runSN (S := ⟨C.1, C.2.1, C.2.2.1, C.2.2.2.2.1, hts⟩) hcall (cells := σ.2.2.2 - z0) (slots := zSS σ.2.2.2 - zSS z0) (locs := locs) (e := e) (below := below) (meth := meth) (As := as.map (zmv g)) (rest := st.map (zmv g)) (g := F0 m pc mls ((as.reverse ++ st).map (zmv g))) (H := H) ⟨cb, hts _ hl2, trivial⟩
    ⟨zPc_blind, fun U hU hW => ⟨rfl, by rw [hU]; exact h1, g1, zK_at C.2.2.2.2.2.2.1 h4 U hU hW⟩⟩ rfl (by simpa using hlen) h5.1 (by simp) (by rw [zcat_map]; exact lv_room hst) hd (by
      have a1 := zSS_mono h2
      have a2 := zSS_mono g2
      have a3 := zSS_mono g3
      rw [← g1] at a2 ⊢
      exact ⟨by omega, by omega⟩)
  exact z_run C hrun g1 g2 g3 h2 h4 h5 kk
/-! typed ends: what a method of ints, truth values, references or nothing comes back with -/
def zb (b : Bool) : Int32 := if b = true then 1 else 0
def zKi (K : Int32 → zS → Prop) : Option Value → zS → Prop := fun v σ => ∃ r, v = some (.int r) ∧ K r σ
def zKl (K : Int64 → zS → Prop) : Option Value → zS → Prop := fun v σ => ∃ r, v = some (.long r) ∧ K r σ
def zKz (K : Bool → zS → Prop) : Option Value → zS → Prop := fun v σ => ∃ b, v = some (.int (zb b)) ∧ K b σ
def zKv (K : zS → Prop) : Option Value → zS → Prop := fun v σ => v = none ∧ K σ
def zKr (K : Nat → zS → Prop) : Option Value → zS → Prop := fun v σ => ∃ o, v = some (.ref o) ∧ K o σ
/-- in the run of calls: all objects are there -/
abbrev zc (l : Launch) (g : zG) (d : Nat) (M : zM) (args : List Value) (σ : zS) (K : Option Value → zS → Prop) : Prop := zCall l g d 200 200 M args σ K
abbrev zt (l : Launch) (g : zG) (d : Nat) (M : zM) (pc : Nat) (ls st : List Value) (σ : zS) (K : Option Value → zS → Prop) : Prop := zAt l g d 200 200 M pc ls st σ K
theorem zc_mono {M : zM} {as : List Value} {K K' : Option Value → zS → Prop} (h : zCall l g d z0 z1 M as σ K) (hm : ∀ v σ, K v σ → K' v σ) : zCall l g d z0 z1 M as σ K' := by
  intro p e ha hc hk s m args below hf happ hP hK
  obtain ⟨n, o, h1, h2, h3, ⟨⟨v, σ', q1, q2, q3⟩, q4⟩, q5⟩ := h p e ha hc hk s m args below hf happ hP hK
  exact ⟨n, o, h1, h2, h3, ⟨⟨v, σ', q1, hm v σ' q2, q3⟩, q4⟩, q5⟩
end ZE
