/-! ===== cells: reads ===== -/
section ZD
variable {l : Launch} {g : zG} {d z0 z1 : Nat} {M : zM} {pc pn : Nat} {ls st : List Value} {σ : zS} {K : Option Value → zS → Prop}
def zIs (σ : zS) (z0 c o : Nat) : Prop := zCl c ∧ zk o = c + 1 ∧ 64 ≤ o ∧ (z0 ≤ σ.2.2.2 → o < 64 + σ.2.2.2)
def zAr (σ : zS) (z0 kd n o : Nat) : Prop := zk o = kd ∧ zn o = n ∧ 64 ≤ o ∧ (z0 ≤ σ.2.2.2 → o < 64 + σ.2.2.2)
theorem zCl_lt {c : Nat} (h : zCl c) : c < 9 := (List.getElem?_eq_some_iff.mp h.1).1
theorem zcell_o {c o : Nat} (h : zIs σ z0 c o) : zcell g σ o = .inr (c, zfl g σ o c) := by
  unfold zcell
  have := zCl_lt h.1
  rw [h.2.1, if_pos (by omega), Nat.add_sub_cancel]
theorem zcell_i {kd n o : Nat} (h : zAr σ z0 kd n o) (h1 : 20 ≤ kd) (h2 : kd < 23) : zcell g σ o = .inl (g.2.2.1 kd, n, .inl (σ.1 o)) := by
  unfold zcell
  rw [h.1, h.2.1, if_neg (by omega), if_pos h2]
theorem zcell_r {kd n o : Nat} (h : zAr σ z0 kd n o) (h2 : 23 ≤ kd) : zcell g σ o = .inl (g.2.2.1 kd, n, .inr (.inr (.inr (.inr (fun j => zro g (σ.2.2.1 o j)))))) := by
  unfold zcell
  rw [h.1, h.2.1, if_neg (by omega), if_neg (by omega)]
theorem zP1 {D : va_G} {cl : List vw_C} {q : Nat × va_E} {H : Heap} (h : va_at D cl q H) : va_P D cl [q] H := fun k p hk => by
  cases k with
  | zero => simp at hk; subst hk; exact h
  | succ k => simp at hk
theorem zfl_at (o c k : Nat) (hk : k < zN c) : (zfl g σ o c)[k]? = some (zfv g σ o (ztc (zty c k)) k) := by
  unfold zfl
  rw [List.getElem?_map, List.getElem?_range hk]
  rfl
theorem zfl_len (o c : Nat) : (zfl g σ o c).length = zN c := by simp [zfl]
theorem z_getW {i c k o : Nat} {rest : List Value} {p : Program} {e : Env} {R : Room} {s : State} {m : MethodId} {args : Array Value} {below : List Frame} {meth : Method} {c9 : Code} {Q : State → Prop} (C : zC l g d z0 z1 M K p e R s m args below meth c9 Q) {H : Heap} {locs : List Loc} {mls : Array Slot} {cells slots : Nat}
    (hf : zFk M.1.cls i c k) (hi : zIs σ z0 c o) (hd : decode M.2.1 pc = .ok (.getfield i, 3)) (h1 : zW g σ H) (h2 : z0 ≤ σ.2.2.2)
    (kk : W p l e R s m args below meth c9 H locs cells slots Q (F0 m (pc + 3) mls (zfv g σ o (ztc (zty c k)) k :: rest))) : W p l e R s m args below meth c9 H locs cells slots Q (F0 m pc mls (.ref (zad g o) :: rest)) := by
  have hP := h1.2 o hi.2.2.1 (hi.2.2.2 h2)
  rw [zcell_o hi] at hP
  rcases hf.2 with h | ⟨host, h⟩
  · exact va_get (D := g.2.1) (cl := vwCl) (tys := ztys g) C.1 C.2.1 C.2.2.2.1 hi.1.2.1 C.2.2.2.2.1 C.2.2.2.2.2.2.1.1 (zP1 hP) 0 rfl hi.1.1 k hf.1 (C.2.2.2.1 _ h) (fun _ h9 => h9) (zfl_at o c k hf.1) hd kk
  · have hw : va_Nw (.fieldLinkNest M.1.cls i (zT c k).1 (zT c k).2.1 (zT c k).2.2.1 host) s := C.2.2.2.2.2.2.1.2.1 _ h
    exact va_getN (D := g.2.1) (cl := vwCl) (tys := ztys g) C.1 C.2.1 C.2.2.2.1 hi.1.2.1 C.2.2.2.2.1 C.2.2.2.2.2.2.1.1 (zP1 hP) 0 rfl hi.1.1 k hf.1 (va_Nw.use rfl hw) (fun _ h9 => h9) (zfl_at o c k hf.1) hd kk
theorem z_getI {i c k o : Nat} {x : Int32} (hx : σ.1 o k = x) (hf : zFk M.1.cls i c k) (hi : zIs σ z0 c o) (ht : ztc (zty c k) = 0) (hd : decode M.2.1 pc = .ok (.getfield i, 3)) (hn : pc + 3 = pn) (k9 : zAt l g d z0 z1 M pn ls (.int x :: st) σ K) : zAt l g d z0 z1 M pc ls (.ref o :: st) σ K := by
  subst hn
  subst hx
  intro p e R s m args below meth c9 Q C H locs mls h1 h2 h3 h4 h5
  refine z_getW C hf hi hd h1 h2 ?_
  rw [ht]
  exact k9 p e R s m args below meth c9 Q C H locs mls h1 h2 h3 h4 h5
theorem z_getL {i c k o : Nat} {x : Int64} (hx : σ.2.1 o k = x) (hf : zFk M.1.cls i c k) (hi : zIs σ z0 c o) (ht : ztc (zty c k) = 2) (hd : decode M.2.1 pc = .ok (.getfield i, 3)) (hn : pc + 3 = pn) (k9 : zAt l g d z0 z1 M pn ls (.long x :: st) σ K) : zAt l g d z0 z1 M pc ls (.ref o :: st) σ K := by
  subst hn
  subst hx
  intro p e R s m args below meth c9 Q C H locs mls h1 h2 h3 h4 h5
  refine z_getW C hf hi hd h1 h2 ?_
  rw [ht]
  exact k9 p e R s m args below meth c9 Q C H locs mls h1 h2 h3 h4 h5
theorem z_getR {i c k o q : Nat} (hf : zFk M.1.cls i c k) (hi : zIs σ z0 c o) (ht : ztc (zty c k) = 3) (hq : σ.2.2.1 o k = q) (hq0 : ¬ q = 0) (hd : decode M.2.1 pc = .ok (.getfield i, 3)) (hn : pc + 3 = pn) (k9 : zAt l g d z0 z1 M pn ls (.ref q :: st) σ K) : zAt l g d z0 z1 M pc ls (.ref o :: st) σ K := by
  subst hn
  intro p e R s m args below meth c9 Q C H locs mls h1 h2 h3 h4 h5
  refine z_getW C hf hi hd h1 h2 ?_
  rw [ht]
  have e9 : zfv g σ o 3 k = .ref (zad g q) := by
    unfold zfv
    rw [if_neg (by decide), if_pos rfl, hq]
    unfold zro
    rw [if_neg hq0]
    rfl
  rw [e9]
  exact k9 p e R s m args below meth c9 Q C H locs mls h1 h2 h3 h4 h5
theorem z_iald {n o : Nat} {i x : Int32} (hx : σ.1 o i.toNatClampNeg = x) (ha : zAr σ z0 20 n o) (hin : vp_in i n) (hd : decode M.2.1 pc = .ok (.iaload, 1)) (hn : pc + 1 = pn) (k9 : zAt l g d z0 z1 M pn ls (.int x :: st) σ K) : zAt l g d z0 z1 M pc ls (.int i :: .ref o :: st) σ K := by
  subst hx
  subst hn
  intro p e R s m args below meth c9 Q C H locs mls h1 h2 h3 h4 h5
  have hP := h1.2 o ha.2.2.1 (ha.2.2.2 h2)
  rw [zcell_i ha (by decide) (by decide)] at hP
  exact va_iald (D := g.2.1) (cl := vwCl) (tys := ztys g) C.1 C.2.1 C.2.2.2.2.2.2.1.1 (zP1 hP) 0 0 rfl rfl hin hd (k9 p e R s m args below meth c9 Q C H locs mls h1 h2 h3 h4 h5)
theorem z_bald {n o : Nat} {i x : Int32} (hx : σ.1 o i.toNatClampNeg = x) (ha : zAr σ z0 21 n o) (hin : vp_in i n) (hd : decode M.2.1 pc = .ok (.baload, 1)) (hn : pc + 1 = pn) (k9 : zAt l g d z0 z1 M pn ls (.int x :: st) σ K) : zAt l g d z0 z1 M pc ls (.int i :: .ref o :: st) σ K := by
  subst hx
  subst hn
  intro p e R s m args below meth c9 Q C H locs mls h1 h2 h3 h4 h5
  have hP := h1.2 o ha.2.2.1 (ha.2.2.2 h2)
  rw [zcell_i ha (by decide) (by decide)] at hP
  exact va_bald (D := g.2.1) (cl := vwCl) (tys := ztys g) C.1 C.2.1 C.2.2.2.2.2.2.1.1 (zP1 hP) 0 1 rfl rfl hin hd (k9 p e R s m args below meth c9 Q C H locs mls h1 h2 h3 h4 h5)
theorem z_zald {n o : Nat} {i x : Int32} (hx : σ.1 o i.toNatClampNeg = x) (ha : zAr σ z0 22 n o) (hin : vp_in i n) (hd : decode M.2.1 pc = .ok (.baload, 1)) (hn : pc + 1 = pn) (k9 : zAt l g d z0 z1 M pn ls (.int x :: st) σ K) : zAt l g d z0 z1 M pc ls (.int i :: .ref o :: st) σ K := by
  subst hx
  subst hn
  intro p e R s m args below meth c9 Q C H locs mls h1 h2 h3 h4 h5
  have hP := h1.2 o ha.2.2.1 (ha.2.2.2 h2)
  rw [zcell_i ha (by decide) (by decide)] at hP
  exact va_zald (D := g.2.1) (cl := vwCl) (tys := ztys g) C.1 C.2.1 C.2.2.2.2.2.2.1.1 (zP1 hP) 0 2 rfl rfl hin hd (k9 p e R s m args below meth c9 Q C H locs mls h1 h2 h3 h4 h5)
theorem z_aald {kd n o q : Nat} {i : Int32} (hkd : 23 ≤ kd ∧ kd < 27) (ha : zAr σ z0 kd n o) (hin : vp_in i n) (hq : σ.2.2.1 o i.toNatClampNeg = q) (hq0 : ¬ q = 0) (hd : decode M.2.1 pc = .ok (.aaload, 1)) (hn : pc + 1 = pn) (k9 : zAt l g d z0 z1 M pn ls (.ref q :: st) σ K) : zAt l g d z0 z1 M pc ls (.int i :: .ref o :: st) σ K := by
  subst hn
  intro p e R s m args below meth c9 Q C H locs mls h1 h2 h3 h4 h5
  have hP : H[zad g o]? = some (vp_cell (g.2.2.1 kd) (n, .inr (.inr (.inr (.inr (fun j => zro g (σ.2.2.1 o j))))))) := by
    have := h1.2 o ha.2.2.1 (ha.2.2.2 h2)
    rw [zcell_r ha hkd.1] at this
    exact this
  have hlt : i.toNatClampNeg < n := Nat.not_le.mp fun q => hin (Or.inr q)
  have hty : ∃ ty : FieldType, (ztys g)[kd - 20]? = some (g.2.2.1 kd, ty) ∧ ty.isReference = true := by
    rcases (show kd = 23 ∨ kd = 24 ∨ kd = 25 ∨ kd = 26 by omega) with rfl | rfl | rfl | rfl
    · exact ⟨_, rfl, rfl⟩
    · exact ⟨_, rfl, rfl⟩
    · exact ⟨_, rfl, rfl⟩
    · exact ⟨_, rfl, rfl⟩
  obtain ⟨ty, t1, t2⟩ := hty
  have e9 : va_rf (zro g (σ.2.2.1 o i.toNatClampNeg)) = .ref (zad g q) := by
    rw [hq]
    unfold zro
    rw [if_neg hq0]
    rfl
  have k10 := k9 p e R s m args below meth c9 Q C H locs mls h1 h2 h3 h4 h5
  exact W.aald (v := .ref (zad g q)) (ty := ty) C.1 C.2.1 hP ((C.2.2.2.2.2.2.1.1.2 (kd - 20) _ t1).1 n (fun j => va_rf (zro g (σ.2.2.1 o j)))) t2 (fun q => by cases q) (by show ¬ (i < 0 ∨ (arrV _ _ _).slots.size ≤ _); rw [arrV_size]; exact hin) (by show (arrV _ _ _).slots[_]? = _; rw [arrV_read _ _ hlt, e9]) rfl rfl hd k10
theorem z_alen {kd n o : Nat} {v : Int32} (hkd : 20 ≤ kd ∧ kd < 27) (ha : zAr σ z0 kd n o) (hv : Int32.ofNat n = v) (hd : decode M.2.1 pc = .ok (.arraylength, 1)) (hn : pc + 1 = pn) (k9 : zAt l g d z0 z1 M pn ls (.int v :: st) σ K) : zAt l g d z0 z1 M pc ls (.ref o :: st) σ K := by
  subst hn
  intro p e R s m args below meth c9 Q C H locs mls h1 h2 h3 h4 h5
  have hP := h1.2 o ha.2.2.1 (ha.2.2.2 h2)
  have hty : ∃ ty : FieldType, (ztys g)[kd - 20]? = some (g.2.2.1 kd, ty) := by
    rcases (show kd = 20 ∨ kd = 21 ∨ kd = 22 ∨ kd = 23 ∨ kd = 24 ∨ kd = 25 ∨ kd = 26 by omega) with rfl | rfl | rfl | rfl | rfl | rfl | rfl <;> exact ⟨_, rfl⟩
  obtain ⟨ty, t1⟩ := hty
  by_cases hlt : kd < 23
  · rw [zcell_i ha hkd.1 hlt] at hP
    exact va_alen (D := g.2.1) (cl := vwCl) (tys := ztys g) C.1 C.2.1 C.2.2.2.2.2.2.1.1 (zP1 hP) 0 (kd - 20) rfl t1 hv hd (k9 p e R s m args below meth c9 Q C H locs mls h1 h2 h3 h4 h5)
  · rw [zcell_r ha (by omega)] at hP
    exact va_alen (D := g.2.1) (cl := vwCl) (tys := ztys g) C.1 C.2.1 C.2.2.2.2.2.2.1.1 (zP1 hP) 0 (kd - 20) rfl t1 hv hd (k9 p e R s m args below meth c9 Q C H locs mls h1 h2 h3 h4 h5)
/-! ===== cells: writes ===== -/
theorem zad_inj {a b : Nat} (ha : 64 ≤ a) (hb : 64 ≤ b) (h : zad g a = zad g b) : a = b := by
  unfold zad at h
  rw [if_neg (by omega), if_neg (by omega)] at h
  omega
theorem zW_put {σ' : zS} {H H' : Heap} {o : Nat} (h : zW g σ H) (ho : 64 ≤ o) (hN : σ'.2.2.2 = σ.2.2.2) (hz : H'.size = H.size) (oq : ∀ q : Nat, q ≠ zad g o → H'[q]? = H[q]?) (hc : va_at g.2.1 vwCl (zad g o, zcell g σ' o) H') (he : ∀ p : Nat, p ≠ o → zcell g σ' p = zcell g σ p) : zW g σ' H' := by
  refine ⟨by rw [hz, h.1, hN], fun p h1 h2 => ?_⟩
  by_cases e : p = o
  · subst e; exact hc
  · rw [he p e]
    rw [hN] at h2
    exact (h.2 p h1 h2).kept (oq _ (fun q => e (zad_inj h1 ho q)))
theorem zcell_I {o k : Nat} {v : Int32} {p : Nat} (h : p ≠ o) : zcell g (zI σ o k v) p = zcell g σ p := by
  have e : (zI σ o k v).1 p = σ.1 p := by funext j; simp [zI, h]
  have e2 : ∀ t k2, zfv g (zI σ o k v) p t k2 = zfv g σ p t k2 := by intro t k2; unfold zfv; rw [e]; rfl
  unfold zcell zfl
  rw [e]
  simp only [e2]
  rfl
theorem zcell_L {o k : Nat} {v : Int64} {p : Nat} (h : p ≠ o) : zcell g (zLg σ o k v) p = zcell g σ p := by
  have e : (zLg σ o k v).2.1 p = σ.2.1 p := by funext j; simp [zLg, h]
  have e2 : ∀ t k2, zfv g (zLg σ o k v) p t k2 = zfv g σ p t k2 := by intro t k2; unfold zfv; rw [e]; rfl
  unfold zcell zfl
  simp only [e2]
  rfl
theorem zcell_R {o k : Nat} {v : Nat} {p : Nat} (h : p ≠ o) : zcell g (zRf σ o k v) p = zcell g σ p := by
  have e : (zRf σ o k v).2.2.1 p = σ.2.2.1 p := by funext j; simp [zRf, h]
  have e2 : ∀ t k2, zfv g (zRf σ o k v) p t k2 = zfv g σ p t k2 := by intro t k2; unfold zfv; rw [e]; rfl
  unfold zcell zfl
  simp only [e2]
  rw [e]
  rfl
theorem z_putW {i c k o : Nat} {v : Value} {σ' : zS} {rest : List Value} {p : Program} {e : Env} {R : Room} {s : State} {m : MethodId} {args : Array Value} {below : List Frame} {meth : Method} {c9 : Code} {Q : State → Prop} (C : zC l g d z0 z1 M K p e R s m args below meth c9 Q) {H : Heap} {locs : List Loc} {mls : Array Slot} {cells slots : Nat}
    (hf : zFk M.1.cls i c k) (hi : zIs σ z0 c o) (hfin : (zT c k).2.2.2 = false ∨ ((zT c k).2.2.2 = true ∧ M.1.name = "<init>" ∧ (zT c k).1 = M.1.cls ∧ Cond.fieldLink M.1.cls i (zT c k).1 (zT c k).2.1 (zT c k).2.2.1 ∈ lw_g)) (hnw : narrow (zty c k) v = v) (hft : fits (zty c k) v = true) (hd : decode M.2.1 pc = .ok (.putfield i, 3)) (h1 : zW g σ H) (h2 : z0 ≤ σ.2.2.2) (h4 : va_S (zA g) s.heap H locs)
    (hN : σ'.2.2.2 = σ.2.2.2) (hv : ∀ j, j < zN c → updV (vp_V (zfl g σ o c)) k v j = vp_V (zfl g σ' o c) j) (he : ∀ p : Nat, p ≠ o → zcell g σ' p = zcell g σ p)
    (kk : ∀ (H1 : Heap) (locs1 : List Loc), zW g σ' H1 → va_S (zA g) s.heap H1 locs1 → W p l e R s m args below meth c9 H1 locs1 cells slots Q (F0 m (pc + 3) mls rest)) : W p l e R s m args below meth c9 H locs cells slots Q (F0 m pc mls (v :: .ref (zad g o) :: rest)) := by
  have hP := h1.2 o hi.2.2.1 (hi.2.2.2 h2)
  have hi' : zIs σ' z0 c o := ⟨hi.1, hi.2.1, hi.2.2.1, fun q => by rw [hN] at q ⊢; exact hi.2.2.2 q⟩
  have hA : zA g (zad g o) := by
    unfold zA zad
    rw [if_neg (by have := hi.2.2.1; omega)]
    exact Nat.le_add_right _ _
  rw [zcell_o hi] at hP
  have hK := C.2.2.2.2.2.2.1.1
  have hap := va_apart (own := M.1.cls) C.2.2.2.1 hi.1.2.1 (zty c) hi.1.2.2.1 hi.1.2.2.2 hK hi.1.1
  obtain ⟨r, q0, cell, q1, q2, q3, q4⟩ := hP
  have hr : r = (zRn c, zT c, zN c) := Option.some.inj (q0.symm.trans hi.1.1)
  subst hr
  obtain ⟨hS, hfc, kC, hkC, hkind⟩ := hK.1 c _ hi.1.1
  obtain ⟨cf, kf, fi, f, hi2, hsl⟩ := hS k hf.1
  have hlay := C.2.2.2.1 _ (hi.1.2.1 _ (u_in_lay hf.1))
  have hst := (u_facts hfc hkC (u_lays C.2.2.2.1 hi.1.2.1 hf.1) hi2).1
  have hd2 := hi.1.2.2.1 k hf.1
  have hend : ∀ H' : Heap, H'[zad g o]? = some (cell.setSlot f.slot v) → H'.size = H.size → (∀ q, q ≠ zad g o → H'[q]? = H[q]?) → W p l e R s m args below meth c9 H' (locs ++ [⟨zad g o, f.slot⟩]) cells slots Q (F0 m (pc + 3) mls rest) := by
    intro H' e1 e2 e3
    rw [hsl] at e1
    refine kk H' _ (zW_put h1 hi.2.2.1 hN e2 e3 ?_ he) (h4.put e2 e3 hA)
    rw [zcell_o hi']
    exact ⟨_, hi.1.1, t_OB.to (V := updV (vp_V (zfl g σ o c)) k v) ⟨_, e1, q2, q3, t_set q4 hap hf.1 v⟩ hv⟩
  rcases hfin with hfin | ⟨hfin, hin, hdecl, hlk⟩
  · unfold u_lay at hlay
    rw [if_neg (by rw [hfin]; decide)] at hlay
    have h6 := u_store hfc hkC hkind hlay hi2 hd2 hnw hft
    rcases hf.2 with h | ⟨host, h⟩
    · exact W.putK C.1 C.2.1 (f := f) ⟨C.2.2.2.2.1, C.2.2.2.1 _ h, ⟨_, _, _, hi2⟩, hst⟩ (by rw [q2]; exact h6) q1 q3 (by rw [hsl]; exact k2_hasslot (q4 k hf.1)) rfl rfl hd hend
    · have hw : va_Nw (.fieldLinkNest M.1.cls i (zT c k).1 (zT c k).2.1 (zT c k).2.2.1 host) s := C.2.2.2.2.2.2.1.2.1 _ h
      exact va_WputK C.1 C.2.1 (f := f) C.2.2.2.2.1 (va_Nw.use rfl hw) hi2 hst (by rw [q2]; exact h6) q1 q3 (by rw [hsl]; exact k2_hasslot (q4 k hf.1)) rfl rfl hd hend
  · unfold u_lay at hlay
    rw [if_pos hfin] at hlay
    have hcf : m.cls = cf := by
      obtain ⟨_, _, c', _, _, _, -, -, hf', -, -, -, hown2, -⟩ := Cond.laysFinal_spec hlay
      have e1 : c' = cf := by have := hi2.symm.trans hf'; simp at this; exact this.1.symm
      rw [hdecl] at hown2
      rw [← e1]
      exact Option.some.inj (C.2.2.2.2.1.symm.trans hown2)
    have h6 := u_fits hfc hkC hkind (Or.inr hlay) hi2 hd2 hnw hft
    exact W.putFinK C.1 C.2.1 C.2.2.2.2.1 (C.2.2.2.1 _ hlk) hi2 hst hcf (C.2.2.2.2.2.1 hin) (by rw [q2]; exact h6) q1 q3 (by rw [hsl]; exact k2_hasslot (q4 k hf.1)) rfl rfl hd hend
theorem zfl_V (o c j : Nat) (hj : j < zN c) : vp_V (zfl g σ o c) j = zfv g σ o (ztc (zty c j)) j := by
  unfold vp_V
  rw [List.getD_eq_getElem?_getD, zfl_at o c j hj]
  rfl
theorem z_putI {i c k o : Nat} {x : Int32} (hf : zFk M.1.cls i c k) (hi : zIs σ z0 c o) (ht : ztc (zty c k) = 0) (hfin : (zT c k).2.2.2 = false ∨ ((zT c k).2.2.2 = true ∧ M.1.name = "<init>" ∧ (zT c k).1 = M.1.cls ∧ Cond.fieldLink M.1.cls i (zT c k).1 (zT c k).2.1 (zT c k).2.2.1 ∈ lw_g)) (hnw : narrow (zty c k) (.int x) = .int x) (hft : fits (zty c k) (.int x) = true) (hd : decode M.2.1 pc = .ok (.putfield i, 3)) (hn : pc + 3 = pn) (k9 : zAt l g d z0 z1 M pn ls st (zI σ o k x) K) : zAt l g d z0 z1 M pc ls (.int x :: .ref o :: st) σ K := by
  subst hn
  intro p e R s m args below meth c9 Q C H locs mls h1 h2 h3 h4 h5
  refine z_putW (σ' := zI σ o k x) C hf hi hfin hnw hft hd h1 h2 h4 rfl (fun j hj => ?_) (fun p h => zcell_I h) (fun H1 locs1 w1 w2 => k9 p e R s m args below meth c9 Q C H1 locs1 mls w1 h2 h3 w2 h5)
  rw [zfl_V o c j hj]
  unfold updV
  by_cases e : j = k
  · subst e
    rw [if_pos rfl, ht]
    simp [zfv, zI, zmv]
  · rw [if_neg e, zfl_V o c j hj]
    simp [zfv, zI, e]
theorem z_putL {i c k o : Nat} {x : Int64} (hf : zFk M.1.cls i c k) (hi : zIs σ z0 c o) (ht : ztc (zty c k) = 2) (hfin : (zT c k).2.2.2 = false ∨ ((zT c k).2.2.2 = true ∧ M.1.name = "<init>" ∧ (zT c k).1 = M.1.cls ∧ Cond.fieldLink M.1.cls i (zT c k).1 (zT c k).2.1 (zT c k).2.2.1 ∈ lw_g)) (hnw : narrow (zty c k) (.long x) = .long x) (hft : fits (zty c k) (.long x) = true) (hd : decode M.2.1 pc = .ok (.putfield i, 3)) (hn : pc + 3 = pn) (k9 : zAt l g d z0 z1 M pn ls st (zLg σ o k x) K) : zAt l g d z0 z1 M pc ls (.long x :: .ref o :: st) σ K := by
  subst hn
  intro p e R s m args below meth c9 Q C H locs mls h1 h2 h3 h4 h5
  refine z_putW (σ' := zLg σ o k x) C hf hi hfin hnw hft hd h1 h2 h4 rfl (fun j hj => ?_) (fun p h => zcell_L h) (fun H1 locs1 w1 w2 => k9 p e R s m args below meth c9 Q C H1 locs1 mls w1 h2 h3 w2 h5)
  rw [zfl_V o c j hj]
  unfold updV
  by_cases e : j = k
  · subst e
    rw [if_pos rfl, ht]
    simp [zfv, zLg, zmv]
  · rw [if_neg e, zfl_V o c j hj]
    simp [zfv, zLg, e]
theorem z_putR {i c k o x : Nat} (hf : zFk M.1.cls i c k) (hi : zIs σ z0 c o) (ht : ztc (zty c k) = 3) (hx : ¬ x = 0) (hfin : (zT c k).2.2.2 = false ∨ ((zT c k).2.2.2 = true ∧ M.1.name = "<init>" ∧ (zT c k).1 = M.1.cls ∧ Cond.fieldLink M.1.cls i (zT c k).1 (zT c k).2.1 (zT c k).2.2.1 ∈ lw_g)) (hnw : narrow (zty c k) (.ref (zad g x)) = .ref (zad g x)) (hft : fits (zty c k) (.ref (zad g x)) = true) (hd : decode M.2.1 pc = .ok (.putfield i, 3)) (hn : pc + 3 = pn) (k9 : zAt l g d z0 z1 M pn ls st (zRf σ o k x) K) : zAt l g d z0 z1 M pc ls (.ref x :: .ref o :: st) σ K := by
  subst hn
  intro p e R s m args below meth c9 Q C H locs mls h1 h2 h3 h4 h5
  refine z_putW (σ' := zRf σ o k x) C hf hi hfin hnw hft hd h1 h2 h4 rfl (fun j hj => ?_) (fun p h => zcell_R h) (fun H1 locs1 w1 w2 => k9 p e R s m args below meth c9 Q C H1 locs1 mls w1 h2 h3 w2 h5)
  rw [zfl_V o c j hj]
  unfold updV
  by_cases e : j = k
  · subst e
    rw [if_pos rfl, ht]
    simp [zfv, zRf, zro, hx, va_rf, zmv]
  · rw [if_neg e, zfl_V o c j hj]
    simp [zfv, zRf, e]
theorem zA_ad {o : Nat} (h : 64 ≤ o) : zA g (zad g o) := by
  unfold zA zad
  rw [if_neg (by omega)]
  exact Nat.le_add_right _ _
theorem zI_cell {o j n kd : Nat} {x : Int32} (ha : zAr σ z0 kd n o) (h1 : 20 ≤ kd) (h2 : kd < 23) {H' : Heap} (e : H'[zad g o]? = some ((vp_cell (g.2.2.1 kd) (n, .inl (σ.1 o))).setSlot j (.int x))) : va_at g.2.1 vwCl (zad g o, zcell g (zI σ o j x) o) H' := by
  have ha' : zAr (zI σ o j x) z0 kd n o := ha
  rw [zcell_i ha' h1 h2]
  show H'[zad g o]? = some (vp_cell _ _)
  rw [e, vp_cell_i, vp_cell_i, arrV_store]
  congr 2
  funext q
  by_cases hq : q = j
  · subst hq; simp [updV, zI]
  · simp [updV, zI, hq]
theorem z_iast {n o : Nat} {i x : Int32} (ha : zAr σ z0 20 n o) (hin : vp_in i n) (hd : decode M.2.1 pc = .ok (.iastore, 1)) (hn : pc + 1 = pn) (k9 : zAt l g d z0 z1 M pn ls st (zI σ o i.toNatClampNeg x) K) : zAt l g d z0 z1 M pc ls (.int x :: .int i :: .ref o :: st) σ K := by
  subst hn
  intro p e R s m args below meth c9 Q C H locs mls h1 h2 h3 h4 h5
  have hP := h1.2 o ha.2.2.1 (ha.2.2.2 h2)
  rw [zcell_i ha (by decide) (by decide)] at hP
  refine W.iast C.1 C.2.1 hP ((C.2.2.2.2.2.2.1.1.2 0 _ rfl).1 n (fun j => .int (σ.1 o j))) (fun q => by cases q) (by show ¬ (i < 0 ∨ (arrV _ _ _).slots.size ≤ _); rw [arrV_size]; exact hin) rfl rfl hd fun H1 e1 e2 e3 => ?_
  exact k9 p e R s m args below meth c9 Q C H1 _ mls (zW_put h1 ha.2.2.1 rfl e2 e3 (zI_cell ha (by decide) (by decide) e1) (fun p h => zcell_I h)) h2 h3 (h4.put e2 e3 (zA_ad ha.2.2.1)) h5
theorem z_bast {n o : Nat} {i x y : Int32} (ha : zAr σ z0 21 n o) (hin : vp_in i n) (hy : x.toInt8.toInt32 = y) (hd : decode M.2.1 pc = .ok (.bastore, 1)) (hn : pc + 1 = pn) (k9 : zAt l g d z0 z1 M pn ls st (zI σ o i.toNatClampNeg y) K) : zAt l g d z0 z1 M pc ls (.int x :: .int i :: .ref o :: st) σ K := by
  subst hn
  subst hy
  intro p e R s m args below meth c9 Q C H locs mls h1 h2 h3 h4 h5
  have hP := h1.2 o ha.2.2.1 (ha.2.2.2 h2)
  rw [zcell_i ha (by decide) (by decide)] at hP
  refine W.bast C.1 C.2.1 hP ((C.2.2.2.2.2.2.1.1.2 1 _ rfl).1 n (fun j => .int (σ.1 o j))) (fun q => by cases q) (by show ¬ (i < 0 ∨ (arrV _ _ _).slots.size ≤ _); rw [arrV_size]; exact hin) rfl rfl hd fun H1 e1 e2 e3 => ?_
  exact k9 p e R s m args below meth c9 Q C H1 _ mls (zW_put h1 ha.2.2.1 rfl e2 e3 (zI_cell ha (by decide) (by decide) e1) (fun p h => zcell_I h)) h2 h3 (h4.put e2 e3 (zA_ad ha.2.2.1)) h5
theorem z_zast {n o : Nat} {i x : Int32} (ha : zAr σ z0 22 n o) (hin : vp_in i n) (hy : narrow .boolean (.int x) = .int x) (hd : decode M.2.1 pc = .ok (.bastore, 1)) (hn : pc + 1 = pn) (k9 : zAt l g d z0 z1 M pn ls st (zI σ o i.toNatClampNeg x) K) : zAt l g d z0 z1 M pc ls (.int x :: .int i :: .ref o :: st) σ K := by
  subst hn
  intro p e R s m args below meth c9 Q C H locs mls h1 h2 h3 h4 h5
  have hP := h1.2 o ha.2.2.1 (ha.2.2.2 h2)
  rw [zcell_i ha (by decide) (by decide)] at hP
  refine W.zast C.1 C.2.1 hP ((C.2.2.2.2.2.2.1.1.2 2 _ rfl).1 n (fun j => .int (σ.1 o j))) (fun q => by cases q) (by show ¬ (i < 0 ∨ (arrV _ _ _).slots.size ≤ _); rw [arrV_size]; exact hin) rfl rfl hd fun H1 e1 e2 e3 => ?_
  rw [hy] at e1
  exact k9 p e R s m args below meth c9 Q C H1 _ mls (zW_put h1 ha.2.2.1 rfl e2 e3 (zI_cell ha (by decide) (by decide) e1) (fun p h => zcell_I h)) h2 h3 (h4.put e2 e3 (zA_ad ha.2.2.1)) h5
end ZD
