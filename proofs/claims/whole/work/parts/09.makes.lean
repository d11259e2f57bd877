/-! ===== making: new objects and arrays, in the order of their numbers ===== -/
section ZM
variable {l : Launch} {g : zG} {d z0 z1 : Nat} {M : zM} {pc pn : Nat} {ls st : List Value} {σ : zS} {K : Option Value → zS → Prop}
/-- nothing is written yet where nothing is made -/
def zcln (σ : zS) : Prop := ∀ o k, 64 + σ.2.2.2 ≤ o → σ.1 o k = 0 ∧ σ.2.1 o k = 0 ∧ σ.2.2.1 o k = 0
theorem zcln_I {o k : Nat} {v : Int32} (h : zcln σ) (ho : o < 64 + σ.2.2.2) : zcln (zI σ o k v) := fun p q hp => by
  have hp : 64 + σ.2.2.2 ≤ p := hp
  have hne : ¬ p = o := by omega
  refine ⟨?_, (h p q hp).2.1, (h p q hp).2.2⟩
  show (if p = o ∧ q = k then v else σ.1 p q) = 0
  rw [if_neg (fun e => hne e.1)]
  exact (h p q hp).1
theorem zcln_R {o k : Nat} {v : Nat} (h : zcln σ) (ho : o < 64 + σ.2.2.2) : zcln (zRf σ o k v) := fun p q hp => by
  have hp : 64 + σ.2.2.2 ≤ p := hp
  have hne : ¬ p = o := by omega
  refine ⟨(h p q hp).1, (h p q hp).2.1, ?_⟩
  show (if p = o ∧ q = k then v else σ.2.2.1 p q) = 0
  rw [if_neg (fun e => hne e.1)]
  exact (h p q hp).2.2
theorem zcln_N {n : Nat} (h : zcln σ) (hn : σ.2.2.2 ≤ n) : zcln (zNn σ n) := fun p q hp => h p q (by have hp : 64 + n ≤ p := hp; omega)
def zpl (t : FieldType) : Bool := match t with
  | .float => false
  | .double => false
  | _ => true
theorem zpl_ok : ∀ c, c < 9 → ∀ j, j < zN c → zpl (zty c j) = true := by decide
theorem zdef {t : FieldType} (ht : zpl t = true) {o j : Nat} (h : σ.1 o j = 0 ∧ σ.2.1 o j = 0 ∧ σ.2.2.1 o j = 0) : defaultValue t = zfv g σ o (ztc t) j := by
  unfold zfv
  rw [h.1, h.2.1, h.2.2]
  cases t <;> first | rfl | (simp [zpl] at ht)
theorem zad_n {n q : Nat} (hq : 64 + n = q) : zad g q = g.1 + n := by
  unfold zad
  rw [if_neg (by omega), ← hq]
  congr 1
  omega
theorem zcell_N {n o : Nat} : zcell g (zNn σ n) o = zcell g σ o := rfl
/-- behind a making: one object more -/
theorem zW_new {n q : Nat} {H H1 : Heap} (h : zW g σ H) (hN : σ.2.2.2 = n) (hq : 64 + n = q) (hz : H1.size = H.size + 1) (ho : ∀ x : Nat, x < H.size → H1[x]? = H[x]?) (hc : va_at g.2.1 vwCl (zad g q, zcell g σ q) H1) : zW g (zNn σ (n + 1)) H1 := by
  refine ⟨by rw [hz, h.1, hN]; rfl, fun o h1 h2 => ?_⟩
  have h2 : o < 64 + (n + 1) := h2
  rw [zcell_N]
  by_cases e : o = q
  · subst e; exact hc
  · exact (h.2 o h1 (by omega)).kept (ho _ (h.2 o h1 (by omega)).lt)
theorem zslot (n q : Nat) (hq : 64 + n = q) (hz1 : n < z1) (hz0 : z0 ≤ n) {R : Room} (hr : z1 - z0 ≤ R.cells ∧ zSS z1 - zSS z0 ≤ R.slots) : (n - z0) + 1 ≤ R.cells ∧ (zSS n - zSS z0) + zsl q ≤ R.slots ∧ (n - z0) + 1 = n + 1 - z0 ∧ (zSS n - zSS z0) + zsl q = zSS (n + 1) - zSS z0 := by
  have a1 : zSS (n + 1) = zSS n + zsl q := by rw [← hq]; rfl
  have a2 := zSS_mono hz0
  have a3 : zSS (n + 1) ≤ zSS z1 := zSS_mono hz1
  omega
theorem z_new {idx c n q : Nat} (hc : zCl c) (hl : Cond.classLink M.1.cls idx (zRn c) ∈ lw_g) (hin : Cond.instantiable (zRn c) (zN c) ∈ lw_g) (hini : Cond.initialized (zRn c) ∈ lw_g) (hN : σ.2.2.2 = n) (hq : 64 + n = q) (hkd : zk q = c + 1) (hcl : zcln σ) (hz1 : n < z1) (hd : decode M.2.1 pc = .ok (.new idx, 3)) (hn : pc + 3 = pn)
    (k : zAt l g d z0 z1 M pn ls (.ref q :: st) (zNn σ (n + 1)) K) : zAt l g d z0 z1 M pc ls st σ K := by
  subst hn
  intro p e R s m args below meth c9 Q C H locs mls h1 h2 h3 h4 h5
  have hts := C.2.2.2.1
  have hKn := C.2.2.2.2.2.2.1.1.1 c _ hc.1
  have hc9 := zCl_lt hc
  have hsl : zsl q = zN c := by unfold zsl; rw [hkd, if_pos (by omega), Nat.add_sub_cancel]
  obtain ⟨b1, b2, b3, b4⟩ := zslot (z0 := z0) n q hq hz1 (by omega) ⟨C.2.2.2.2.2.2.2.1.2.2.1, C.2.2.2.2.2.2.2.1.2.2.2⟩
  rw [hsl] at b2 b4
  rw [hN]
  refine W.newcK C.1 C.2.1 C.2.2.2.2.1 (hts _ hl) (hts _ hin) (hts _ hini) rfl hd b1 b2 hKn.2.1 rfl (fun H1 kC hkC e1 zz1 o1 => ?_)
  have hcell : va_at g.2.1 vwCl (zad g q, zcell g σ q) H1 := by
    have hz : zIs (zNn σ (n + 1)) 0 c q := ⟨hc, hkd, by omega, fun _ => by show q < 64 + (n + 1); omega⟩
    have e9 := zcell_o (g := g) hz
    rw [zcell_N] at e9
    rw [e9, zad_n hq]
    have hH : H.size = g.1 + n := by rw [h1.1, hN]
    rw [hH] at e1
    refine ⟨_, hc.1, (u_born (zty c) hts hc.2.1 hKn hkC e1 hc.2.2.1).to (fun j hj => ?_)⟩
    have := zfl_V (g := g) (σ := zNn σ (n + 1)) q c j hj
    rw [this]
    exact zdef (zpl_ok c hc9 j hj) (hcl q j (by omega))
  have k9 := k p e R s m args below meth c9 Q C H1 locs mls (zW_new h1 hN hq zz1 o1 hcell) (by show z0 ≤ n + 1; omega) (by show n + 1 ≤ z1; omega) ⟨Nat.le_trans h4.1 (by omega), fun x x1 x2 => (o1 x (Nat.lt_of_lt_of_le x1 h4.1)).trans (h4.2.1 x x1 x2), h4.2.2⟩ h5
  have e5 : (zNn σ (n + 1)).2.2.2 = n + 1 := rfl
  rw [e5, List.map_cons] at k9
  have e6 : zmv g (.ref q) = .ref H.size := by show Value.ref _ = _; rw [zad_n hq, h1.1, hN]
  rw [e6] at k9
  rw [b3, b4]
  exact k9
theorem z_newa {atype : ArrayType} {kd len n q : Nat} {x : Int32} (ht : (ztys g)[kd - 20]? = some (g.2.2.1 kd, newarray.typeOf atype)) (hra : ∀ (U : State) (cA : ClassId), va_RA U cA (newarray.typeOf atype) → U.vm.findClass ("[" ++ (newarray.typeOf atype).toString) = some cA) (harr : Cond.arrayClass (newarray.typeOf atype) ∈ lw_g) (hkd : 20 ≤ kd ∧ kd < 23) (hkq : zk q = kd) (hlen : zn q = len) (hx0 : ¬ x < 0) (hx : x.toNatClampNeg = len) (hdv : defaultValue (newarray.typeOf atype) = .int 0) (hby : len * componentBytes (newarray.typeOf atype) ≤ 536870912) (hN : σ.2.2.2 = n) (hq : 64 + n = q) (hcl : zcln σ) (hz1 : n < z1) (hd : decode M.2.1 pc = .ok (.newarray atype, 2)) (hn : pc + 2 = pn)
    (k : zAt l g d z0 z1 M pn ls (.ref q :: st) (zNn σ (n + 1)) K) : zAt l g d z0 z1 M pc ls (.int x :: st) σ K := by
  subst hn
  intro p e R s m args below meth c9 Q C H locs mls h1 h2 h3 h4 h5
  have hts := C.2.2.2.1
  have hsl : zsl q = len := by unfold zsl; rw [hkq, if_neg (by omega), hlen]
  obtain ⟨b1, b2, b3, b4⟩ := zslot (z0 := z0) n q hq hz1 (by omega) ⟨C.2.2.2.2.2.2.2.1.2.2.1, C.2.2.2.2.2.2.2.1.2.2.2⟩
  rw [hsl] at b2 b4
  rw [hN]
  have hH : H.size = g.1 + n := by rw [h1.1, hN]
  refine va_newaK C.1 C.2.1 (hts _ harr) rfl hd rfl hx0 hx hby b1 b2 hH (fun H1 cA e1 zz1 o1 hAr hNm => ?_)
  have hcA : cA = g.2.2.1 kd := by
    have := hra s _ (C.2.2.2.2.2.2.1.1.2 _ _ ht).2
    exact Option.some.inj (hNm.symm.trans this)
  subst hcA
  have hcell : va_at g.2.1 vwCl (zad g q, zcell g σ q) H1 := by
    have hz : zAr (zNn σ (n + 1)) 0 kd len q := ⟨hkq, hlen, by omega, fun _ => by show q < 64 + (n + 1); omega⟩
    have e9 := zcell_i (g := g) hz hkd.1 hkd.2
    rw [zcell_N] at e9
    rw [e9, zad_n hq]
    show H1[g.1 + n]? = some (vp_cell _ _)
    rw [e1, vp_cell_i, hdv]
    congr 2
    funext j
    show Value.int 0 = Value.int (σ.1 q j)
    rw [(hcl q j (by omega)).1]
  have k9 := k p e R s m args below meth c9 Q C H1 locs mls (zW_new h1 hN hq (by rw [zz1, hH]) (by rw [hH]; exact o1) hcell) (by show z0 ≤ n + 1; omega) (by show n + 1 ≤ z1; omega) ⟨Nat.le_trans h4.1 (by omega), fun x x1 x2 => (o1 x (by rw [← hH]; exact Nat.lt_of_lt_of_le x1 h4.1)).trans (h4.2.1 x x1 x2), h4.2.2⟩ h5
  have e5 : (zNn σ (n + 1)).2.2.2 = n + 1 := rfl
  rw [e5, List.map_cons] at k9
  have e6 : zmv g (.ref q) = .ref (g.1 + n) := by show Value.ref _ = _; rw [zad_n hq]
  rw [e6] at k9
  rw [b3, b4]
  exact k9
theorem z_anew {cn : String} {idx kd len n q : Nat} {x : Int32} (ht : (ztys g)[kd - 20]? = some (g.2.2.1 kd, .object cn)) (hover : ∀ U, zO U → va_AO cn U) (hl : Cond.classLink M.1.cls idx cn ∈ lw_g) (hkd : 23 ≤ kd) (hkq : zk q = kd) (hlen : zn q = len) (hx0 : ¬ x < 0) (hx : x.toNatClampNeg = len) (hby : len * 4 ≤ 536870912) (hN : σ.2.2.2 = n) (hq : 64 + n = q) (hcl : zcln σ) (hz1 : n < z1) (hd : decode M.2.1 pc = .ok (.anewarray idx, 3)) (hn : pc + 3 = pn)
    (k : zAt l g d z0 z1 M pn ls (.ref q :: st) (zNn σ (n + 1)) K) : zAt l g d z0 z1 M pc ls (.int x :: st) σ K := by
  subst hn
  intro p e R s m args below meth c9 Q C H locs mls h1 h2 h3 h4 h5
  have hts := C.2.2.2.1
  have hsl : zsl q = len := by unfold zsl; rw [hkq, if_neg (by omega), hlen]
  obtain ⟨b1, b2, b3, b4⟩ := zslot (z0 := z0) n q hq hz1 (by omega) ⟨C.2.2.2.2.2.2.2.1.2.2.1, C.2.2.2.2.2.2.2.1.2.2.2⟩
  rw [hsl] at b2 b4
  rw [hN]
  have hH : H.size = g.1 + n := by rw [h1.1, hN]
  subst hx
  refine W.anew C.1 C.2.1 C.2.2.2.2.1 (hts _ hl) (va_AO.use (hover s C.2.2.2.2.2.2.1.2.2.2.2.2.2.2.2)) rfl hd rfl hx0 hby b1 b2 (fun cA kA comp f1 f2 f3 f4 => ?_)
  generalize hH1 : H.push ({ cls := cA, slots := Array.replicate x.toNatClampNeg .null, vm := .none } : Cell) = H1
  have zz1 : H1.size = H.size + 1 := by rw [← hH1, Array.size_push]
  have e1 : H1[H.size]? = some (arrV cA x.toNatClampNeg (fun _ => .null)) := by rw [← hH1, Array.getElem?_push_size, ← arrV_new]
  have o1 : ∀ q : Nat, q < H.size → H1[q]? = H[q]? := fun q hq => by rw [← hH1, Array.getElem?_push, if_neg (Nat.ne_of_lt hq)]
  have hcA : cA = g.2.2.1 kd := by
    obtain ⟨kA', comp', a1, a2, a3, a4⟩ := (C.2.2.2.2.2.2.1.1.2 _ _ ht).2
    exact Option.some.inj (f1.symm.trans a4)
  subst hcA
  have hcell : va_at g.2.1 vwCl (zad g q, zcell g σ q) H1 := by
    have hz : zAr (zNn σ (n + 1)) 0 kd x.toNatClampNeg q := ⟨hkq, hlen, by omega, fun _ => by show q < 64 + (n + 1); omega⟩
    have e9 := zcell_r (g := g) hz hkd
    rw [zcell_N] at e9
    rw [e9, zad_n hq, ← hH]
    show H1[H.size]? = some (vp_cell _ _)
    rw [e1, vp_cell_q]
    congr 2
    funext j
    show Value.null = va_rf (zro g (σ.2.2.1 q j))
    rw [(hcl q j (by omega)).2.2]
    rfl
  have k9 := k p e R s m args below meth c9 Q C H1 locs mls (zW_new h1 hN hq zz1 o1 hcell) (by show z0 ≤ n + 1; omega) (by show n + 1 ≤ z1; omega) ⟨Nat.le_trans h4.1 (by omega), fun x x1 x2 => (o1 x (Nat.lt_of_lt_of_le x1 h4.1)).trans (h4.2.1 x x1 x2), h4.2.2⟩ h5
  have e5 : (zNn σ (n + 1)).2.2.2 = n + 1 := rfl
  rw [e5, List.map_cons] at k9
  have e6 : zmv g (.ref q) = .ref H.size := by show Value.ref _ = _; rw [zad_n hq, hH]
  rw [e6] at k9
  rw [b3, b4]
  exact k9
theorem zasg (vm : Vm) (c : ClassId) : vm.assignable c c = true := by
  show vm.assignableAux (255 + 1) c c = true
  unfold Vm.assignableAux
  simp only [beq_self_eq_true, Bool.true_or]
/-- a reference goes into an array of them -/
theorem z_aastW {kd n o v : Nat} {i : Int32} {cn : String} {rest : List Value} {p : Program} {e : Env} {R : Room} {s : State} {m : MethodId} {args : Array Value} {below : List Frame} {meth : Method} {c9 : Code} {Q : State → Prop} (C : zC l g d z0 z1 M K p e R s m args below meth c9 Q) {H : Heap} {locs : List Loc} {mls : Array Slot} {cells slots : Nat}
    (ht : (ztys g)[kd - 20]? = some (g.2.2.1 kd, .object cn)) (hkd : 23 ≤ kd) (ha : zAr σ z0 kd n o) (hin : vp_in i n) (hv0 : ¬ v = 0) (hrec : ∃ cellB : Cell, H[zad g v]? = some cellB ∧ cellB.vm.isStatics = false ∧ s.vm.findClass cn = some cellB.cls) (hd : decode M.2.1 pc = .ok (.aastore, 1)) (h1 : zW g σ H) (h2 : z0 ≤ σ.2.2.2) (h4 : va_S (zA g) s.heap H locs)
    (kk : ∀ (H1 : Heap) (locs1 : List Loc), zW g (zRf σ o i.toNatClampNeg v) H1 → va_S (zA g) s.heap H1 locs1 → W p l e R s m args below meth c9 H1 locs1 cells slots Q (F0 m (pc + 1) mls rest)) : W p l e R s m args below meth c9 H locs cells slots Q (F0 m pc mls (.ref (zad g v) :: .int i :: .ref (zad g o) :: rest)) := by
  have hP : H[zad g o]? = some (vp_cell (g.2.2.1 kd) (n, .inr (.inr (.inr (.inr (fun j => zro g (σ.2.2.1 o j))))))) := by
    have := h1.2 o ha.2.2.1 (ha.2.2.2 h2)
    rw [zcell_r ha hkd] at this
    exact this
  have hlt : i.toNatClampNeg < n := Nat.not_le.mp fun q => hin (Or.inr q)
  have h0 : ¬ i < 0 := fun q => hin (Or.inl q)
  obtain ⟨cellB, g1, g2, g3⟩ := hrec
  obtain ⟨kA, comp, k1, k2, k3, -⟩ := (C.2.2.2.2.2.2.1.1.2 _ _ ht).2
  have hcomp : comp = cellB.cls := Option.some.inj (k3.symm.trans g3)
  subst hcomp
  obtain ⟨kE, hkE, -⟩ := Vm.findClass_spec k3
  refine W.aast C.1 C.2.1 hP (fun q h => by cases h) (fun h => by cases h) k1 k2 rfl hkE ⟨h0, by show _ < (arrV _ _ _).slots.size; rw [arrV_size]; exact hlt⟩ g1 (fun q h => by rw [h] at g2; cases g2) hkE (zasg _ _) rfl rfl hd fun H1 e1 z1' oq => ?_
  refine kk H1 _ (zW_put h1 ha.2.2.1 rfl z1' oq ?_ (fun p h => zcell_R h)) (h4.put z1' oq (zA_ad ha.2.2.1))
  have ha' : zAr (zRf σ o i.toNatClampNeg v) z0 kd n o := ha
  rw [zcell_r ha' hkd]
  show H1[zad g o]? = some (vp_cell _ _)
  rw [e1, vp_cell_q, vp_cell_q, arrV_store]
  congr 2
  funext q
  by_cases hq : q = i.toNatClampNeg
  · subst hq
    simp [updV, zRf, zro, hv0, va_rf]
  · simp [updV, zRf, hq]
theorem z_aast {kd n o v c : Nat} {i : Int32} (ht : (ztys g)[kd - 20]? = some (g.2.2.1 kd, .object (zRn c))) (hkd : 23 ≤ kd) (ha : zAr σ z0 kd n o) (hin : vp_in i n) (hv0 : ¬ v = 0) (hi : zIs σ z0 c v) (hd : decode M.2.1 pc = .ok (.aastore, 1)) (hn : pc + 1 = pn) (k9 : zAt l g d z0 z1 M pn ls st (zRf σ o i.toNatClampNeg v) K) : zAt l g d z0 z1 M pc ls (.ref v :: .int i :: .ref o :: st) σ K := by
  subst hn
  intro p e R s m args below meth c9 Q C H locs mls h1 h2 h3 h4 h5
  exact z_aastW C ht hkd ha hin hv0 (zRec_of hi s H locs C.2.2.2.2.2.2.1 h1 h2 h4) hd h1 h2 h4 (fun H1 locs1 w1 w2 => k9 p e R s m args below meth c9 Q C H1 locs1 mls w1 h2 h3 w2 h5)
theorem z_aastS {n o v : Nat} {i : Int32} (ha : zAr σ z0 26 n o) (hin : vp_in i n) (hv : v < 20) (hd : decode M.2.1 pc = .ok (.aastore, 1)) (hn : pc + 1 = pn) (k9 : zAt l g d z0 z1 M pn ls st (zRf σ o i.toNatClampNeg (2 + v)) K) : zAt l g d z0 z1 M pc ls (.ref (2 + v) :: .int i :: .ref o :: st) σ K := by
  subst hn
  intro p e R s m args below meth c9 Q C H locs mls h1 h2 h3 h4 h5
  exact z_aastW C (kd := 26) (cn := "java/lang/String") rfl (by decide) ha hin (by omega) (zRec_s hv s H locs C.2.2.2.2.2.2.1 h1 h2 h4) hd h1 h2 h4 (fun H1 locs1 w1 w2 => k9 p e R s m args below meth c9 Q C H1 locs1 mls w1 h2 h3 w2 h5)
theorem z_objInit {idx o : Nat} (hl : Cond.methodLink M.1.cls idx Lib.objectInit ∈ lw_g) (hi : Cond.instanceMethod Lib.objectInit ∈ lw_g) (hc : Cond.code Lib.objectInit ⟨#[0xb1]⟩ 1 none ∈ lw_g) (hd : decode M.2.1 pc = .ok (.invokespecial idx, 3)) (hst : (st.map fun v => v.category).sum ≤ 8) (hn : pc + 3 = pn) (k9 : zAt l g (d + 1) z0 z1 M pn ls st σ K) : zAt l g (d + 1) z0 z1 M pc ls (.ref o :: st) σ K := by
  subst hn
  intro p e R s m args below meth c9 Q C H locs mls h1 h2 h3 h4 h5
  have hts := C.2.2.2.1
  obtain ⟨r1, r2, -, -⟩ := C.2.2.2.2.2.2.2.1
  refine W.objInit C.1 C.2.1 C.2.2.2.2.1 (hts _ hl) (hts _ hi) (hts _ hc) rfl (h5.1.trans C.2.2.1.symm) rfl hd (by omega) ?_ (k9 p e R s m args below meth c9 Q C H locs mls h1 h2 h3 h4 h5)
  show 2 * 0 + ((st.map (zmv g)).map fun v => v.category).sum + 12 ≤ R.locals
  rw [zcat_map]
  omega
theorem z_callI {i n b y0 y1 : Nat} {M' : zM} {as stk : List Value} {K' : Option Value → zS → Prop} (hk : zMk M' n) (hret : M'.2.2.2 = none) (hl : zLkI M.1.cls i M') (hlen : as.length = n) (hcall : zCall l g d y0 y1 M' (.ref b :: as) σ K') (hs : as.reverse ++ .ref b :: st = stk) (hst : (st.map fun v => v.category).sum ≤ 8) (hd : decode M.2.1 pc = .ok (.invokespecial i, 3)) (hy : z0 ≤ σ.2.2.2 → σ.2.2.2 ≤ z1 → σ.2.2.2 = y0 ∧ y0 ≤ y1 ∧ y1 ≤ z1) (hn : pc + 3 = pn)
    (kk : ∀ v σ', K' v σ' → zAt l g (d + 1) z0 z1 M pn ls (v.toList ++ st) σ' K) : zAt l g (d + 1) z0 z1 M pc ls stk σ K := by
  subst hn
  subst hs
  intro p e R s m args below meth c9 Q C H locs mls h1 h2 h3 h4 h5
  obtain ⟨g1, g2, g3⟩ := hy h2 h3
  obtain ⟨r1, r2, r3, r4⟩ := C.2.2.2.2.2.2.2.1
  have hts := C.2.2.2.1
  have hg := zws_good hk
  have hcall' : Met l M'.1 (zws M') (zRm d y0 y1) (zPc g y0 (.ref b :: as) σ) (zQc g y1 K') (y1 - y0) (zSS y1 - zSS y0) (zA g) := hcall
  have hws : zws M' = Cond.code M'.1 M'.2.1 M'.2.2.1 none :: lw_g := by unfold zws; rw [hret]
  have cb := callB_of (R := R) (s := s) (args := args) (own := M.1.cls) (index := i) (y := M'.1) (bytes := M'.2.1) (maxL := M'.2.2.1) (ret := none) (ws := zws M') (rm := zRm d y0 y1) (mc := y1 - y0) (ms := zSS y1 - zSS y0) n hts hg hws rfl rfl (hts _ hk.2.1) (hts _ hl.1) hk.2.2.1 ⟨r1, by have := hk.2.2.2.2; show 8 + (M'.2.2.1 + 11) + 100 * d ≤ R.locals; omega⟩
  have hrun := va_runI (S := ⟨C.1, C.2.1, C.2.2.1, C.2.2.2.2.1, hts⟩) hcall' (cells := σ.2.2.2 - z0) (slots := zSS σ.2.2.2 - zSS z0) (locs := locs) (e := e) (below := below) (meth := meth) (b := zad g b) (As := as.map (zmv g)) (rest := st.map (zmv g)) (g := F0 m pc mls ((as.reverse ++ .ref b :: st).map (zmv g))) (H := H) ⟨cb, hl.2.2, hts _ hl.2.1⟩
    ⟨zPc_blind, fun U hU hW => ⟨rfl, by rw [hU]; exact h1, g1, zK_at C.2.2.2.2.2.2.1 h4 U hU hW⟩⟩ rfl (by simpa using hlen) h5.1 (by simp [zmv]) (by rw [zcat_map]; exact lv_room hst) hd (by
      have a1 := zSS_mono h2
      have a2 := zSS_mono g2
      have a3 := zSS_mono g3
      rw [← g1] at a2 ⊢
      exact ⟨by omega, by omega⟩)
  exact z_run C hrun g1 g2 g3 h2 h4 h5 kk
theorem z_callIN {i n b y0 y1 : Nat} {M' : zM} {as stk : List Value} {K' : Option Value → zS → Prop} (hk : zMk M' n) (hret : M'.2.2.2 = none) (hl : zLkIN M.1.cls i M') (hlen : as.length = n) (hcall : zCall l g d y0 y1 M' (.ref b :: as) σ K') (hs : as.reverse ++ .ref b :: st = stk) (hst : (st.map fun v => v.category).sum ≤ 8) (hd : decode M.2.1 pc = .ok (.invokespecial i, 3)) (hy : z0 ≤ σ.2.2.2 → σ.2.2.2 ≤ z1 → σ.2.2.2 = y0 ∧ y0 ≤ y1 ∧ y1 ≤ z1) (hn : pc + 3 = pn)
    (kk : ∀ v σ', K' v σ' → zAt l g (d + 1) z0 z1 M pn ls (v.toList ++ st) σ' K) : zAt l g (d + 1) z0 z1 M pc ls stk σ K := by
  subst hn
  subst hs
  obtain ⟨host, hl1, hl2, hl3⟩ := hl
  intro p e R s m args below meth c9 Q C H locs mls h1 h2 h3 h4 h5
  obtain ⟨g1, g2, g3⟩ := hy h2 h3
  obtain ⟨r1, r2, r3, r4⟩ := C.2.2.2.2.2.2.2.1
  have hts := C.2.2.2.1
  have hg := zws_good hk
  have hcall' : Met l M'.1 (zws M') (zRm d y0 y1) (zPc g y0 (.ref b :: as) σ) (zQc g y1 K') (y1 - y0) (zSS y1 - zSS y0) (zA g) := hcall
  have hws : zws M' = Cond.code M'.1 M'.2.1 M'.2.2.1 none :: lw_g := by unfold zws; rw [hret]
  have hw : va_Nw (.methodLinkNest M.1.cls i M'.1 host) s := C.2.2.2.2.2.2.1.2.1 _ hl1
  have cb := va_cnB (R := R) (args := args) (own := M.1.cls) (index := i) (y := M'.1) (bytes := M'.2.1) (maxL := M'.2.2.1) (ret := none) (ws := zws M') (rm := zRm d y0 y1) (mc := y1 - y0) (ms := zSS y1 - zSS y0) n hts hg hws rfl rfl hw (hts _ hk.2.1) hk.2.2.1 ⟨r1, by have := hk.2.2.2.2; show 8 + (M'.2.2.1 + 11) + 100 * d ≤ R.locals; omega⟩
  have hrun := va_runIN (S := ⟨C.1, C.2.1, C.2.2.1, C.2.2.2.2.1, hts⟩) hcall' (cells := σ.2.2.2 - z0) (slots := zSS σ.2.2.2 - zSS z0) (locs := locs) (e := e) (below := below) (meth := meth) (b := zad g b) (As := as.map (zmv g)) (rest := st.map (zmv g)) (g := F0 m pc mls ((as.reverse ++ .ref b :: st).map (zmv g))) (H := H) ⟨cb, hl3, hts _ hl2⟩
    ⟨zPc_blind, fun U hU hW => ⟨rfl, by rw [hU]; exact h1, g1, zK_at C.2.2.2.2.2.2.1 h4 U hU hW⟩⟩ rfl (by simpa using hlen) h5.1 (by simp [zmv]) (by rw [zcat_map]; exact lv_room hst) hd (by
      have a1 := zSS_mono h2
      have a2 := zSS_mono g2
      have a3 := zSS_mono g3
      rw [← g1] at a2 ⊢
      exact ⟨by omega, by omega⟩)
  exact z_run C hrun g1 g2 g3 h2 h4 h5 kk
end ZM
