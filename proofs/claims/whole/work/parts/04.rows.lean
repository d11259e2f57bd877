
def zushr (x y : Int32) : Int32 := (x.toUInt32 >>> (y.toUInt32 &&& Int32.toUInt32 31)).toInt32
theorem zrem_eq (x y : Int32) : x - x / y * y = x % y := by
  apply Int32.toInt_inj.mp
  rw [Int32.toInt_sub, Int32.toInt_mul, Int32.toInt_div, Int32.toInt_mod]
  rw [Int.bmod_mul_bmod, Int.sub_bmod_bmod]
  have h1 : x.toInt - x.toInt.tdiv y.toInt * y.toInt = x.toInt.tmod y.toInt := by
    have := Int.tdiv_mul_add_tmod x.toInt y.toInt
    omega
  rw [h1]
  have h2 := Int32.toInt_lt (x % y)
  have h3 := Int32.le_toInt (x % y)
  rw [Int32.toInt_mod] at h2 h3
  apply Int.bmod_eq_of_le <;> omega
theorem zrem_eqL (x y : Int64) : x - x / y * y = x % y := by
  apply Int64.toInt_inj.mp
  rw [Int64.toInt_sub, Int64.toInt_mul, Int64.toInt_div, Int64.toInt_mod]
  rw [Int.bmod_mul_bmod, Int.sub_bmod_bmod]
  have h1 : x.toInt - x.toInt.tdiv y.toInt * y.toInt = x.toInt.tmod y.toInt := by
    have := Int.tdiv_mul_add_tmod x.toInt y.toInt
    omega
  rw [h1]
  have h2 := Int64.toInt_lt (x % y)
  have h3 := Int64.le_toInt (x % y)
  rw [Int64.toInt_mod] at h2 h3
  apply Int.bmod_eq_of_le <;> omega
theorem z_iconst {l : Launch} {g : zG} {d z0 z1 : Nat} {M : zM} {pc pn : Nat} {ls st : List Value} {σ : zS} {K : Option Value → zS → Prop} {n : Int} {v : Int32} (hd : decode M.2.1 pc = .ok (.iconst n, 1)) (hv : Int32.ofInt n = v) (hn : pc + 1 = pn) (k : zAt l g d z0 z1 M pn ls (.int v :: st) σ K) : zAt l g d z0 z1 M pc ls st σ K := by
  subst hn
  intro p e R s m args below meth c Q C H locs mls h1 h2 h3 h4 h5
  exact lv_iconst C.1 C.2.1 hd hv (k p e R s m args below meth c Q C H locs mls h1 h2 h3 h4 h5)
theorem z_bipush {l : Launch} {g : zG} {d z0 z1 : Nat} {M : zM} {pc pn : Nat} {ls st : List Value} {σ : zS} {K : Option Value → zS → Prop} {n : Int} {v : Int32} (hd : decode M.2.1 pc = .ok (.bipush n, 2)) (hv : (Int8.ofInt n).toInt32 = v) (hn : pc + 2 = pn) (k : zAt l g d z0 z1 M pn ls (.int v :: st) σ K) : zAt l g d z0 z1 M pc ls st σ K := by
  subst hn
  intro p e R s m args below meth c Q C H locs mls h1 h2 h3 h4 h5
  exact lv_bipush C.1 C.2.1 hd hv (k p e R s m args below meth c Q C H locs mls h1 h2 h3 h4 h5)
theorem z_sipush {l : Launch} {g : zG} {d z0 z1 : Nat} {M : zM} {pc pn : Nat} {ls st : List Value} {σ : zS} {K : Option Value → zS → Prop} {n : Int} {v : Int32} (hd : decode M.2.1 pc = .ok (.sipush n, 3)) (hv : (Int16.ofInt n).toInt32 = v) (hn : pc + 3 = pn) (k : zAt l g d z0 z1 M pn ls (.int v :: st) σ K) : zAt l g d z0 z1 M pc ls st σ K := by
  subst hn
  intro p e R s m args below meth c Q C H locs mls h1 h2 h3 h4 h5
  exact lv_sipush C.1 C.2.1 hd hv (k p e R s m args below meth c Q C H locs mls h1 h2 h3 h4 h5)
theorem z_lconst {l : Launch} {g : zG} {d z0 z1 : Nat} {M : zM} {pc pn : Nat} {ls st : List Value} {σ : zS} {K : Option Value → zS → Prop} {n : Fin 2} {v : Int64} (hd : decode M.2.1 pc = .ok (.lconst n, 1)) (hv : Int64.ofNat (n : Nat) = v) (hn : pc + 1 = pn) (k : zAt l g d z0 z1 M pn ls (.long v :: st) σ K) : zAt l g d z0 z1 M pc ls st σ K := by
  subst hn
  intro p e R s m args below meth c Q C H locs mls h1 h2 h3 h4 h5
  exact lv_lconst C.1 C.2.1 hd hv (k p e R s m args below meth c Q C H locs mls h1 h2 h3 h4 h5)
theorem z_iload_n {l : Launch} {g : zG} {d z0 z1 : Nat} {M : zM} {pc pn : Nat} {ls st : List Value} {σ : zS} {K : Option Value → zS → Prop} {j : Fin 4} {i : Nat} {x : Int32} (hd : decode M.2.1 pc = .ok (.iload_n j, 1)) (hi : (j : Nat) = i) (hl : ls[i]? = some (.int x)) (hn : pc + 1 = pn) (k : zAt l g d z0 z1 M pn ls (.int x :: st) σ K) : zAt l g d z0 z1 M pc ls st σ K := by
  subst hn
  intro p e R s m args below meth c Q C H locs mls h1 h2 h3 h4 h5
  exact lv_iload_n C.1 C.2.1 hd hi (zL_at h5 (v := .int x) hl rfl) (k p e R s m args below meth c Q C H locs mls h1 h2 h3 h4 h5)
theorem z_iload {l : Launch} {g : zG} {d z0 z1 : Nat} {M : zM} {pc pn : Nat} {ls st : List Value} {σ : zS} {K : Option Value → zS → Prop} {i : Nat} {x : Int32} (hd : decode M.2.1 pc = .ok (.iload i, 2)) (hl : ls[i]? = some (.int x)) (hn : pc + 2 = pn) (k : zAt l g d z0 z1 M pn ls (.int x :: st) σ K) : zAt l g d z0 z1 M pc ls st σ K := by
  subst hn
  intro p e R s m args below meth c Q C H locs mls h1 h2 h3 h4 h5
  exact lv_iload C.1 C.2.1 hd (zL_at h5 (v := .int x) hl rfl) (k p e R s m args below meth c Q C H locs mls h1 h2 h3 h4 h5)
theorem z_lload_n {l : Launch} {g : zG} {d z0 z1 : Nat} {M : zM} {pc pn : Nat} {ls st : List Value} {σ : zS} {K : Option Value → zS → Prop} {j : Fin 4} {i : Nat} {x : Int64} (hd : decode M.2.1 pc = .ok (.lload_n j, 1)) (hi : (j : Nat) = i) (hl : ls[i]? = some (.long x)) (hn : pc + 1 = pn) (k : zAt l g d z0 z1 M pn ls (.long x :: st) σ K) : zAt l g d z0 z1 M pc ls st σ K := by
  subst hn
  intro p e R s m args below meth c Q C H locs mls h1 h2 h3 h4 h5
  exact lv_lload_n C.1 C.2.1 hd hi (zL_at h5 (v := .long x) hl rfl) (k p e R s m args below meth c Q C H locs mls h1 h2 h3 h4 h5)
theorem z_lload {l : Launch} {g : zG} {d z0 z1 : Nat} {M : zM} {pc pn : Nat} {ls st : List Value} {σ : zS} {K : Option Value → zS → Prop} {i : Nat} {x : Int64} (hd : decode M.2.1 pc = .ok (.lload i, 2)) (hl : ls[i]? = some (.long x)) (hn : pc + 2 = pn) (k : zAt l g d z0 z1 M pn ls (.long x :: st) σ K) : zAt l g d z0 z1 M pc ls st σ K := by
  subst hn
  intro p e R s m args below meth c Q C H locs mls h1 h2 h3 h4 h5
  exact lv_lload C.1 C.2.1 hd (zL_at h5 (v := .long x) hl rfl) (k p e R s m args below meth c Q C H locs mls h1 h2 h3 h4 h5)
theorem z_aload_n {l : Launch} {g : zG} {d z0 z1 : Nat} {M : zM} {pc pn : Nat} {ls st : List Value} {σ : zS} {K : Option Value → zS → Prop} {j : Fin 4} {i : Nat} {x : Nat} (hd : decode M.2.1 pc = .ok (.aload_n j, 1)) (hi : (j : Nat) = i) (hl : ls[i]? = some (.ref x)) (hn : pc + 1 = pn) (k : zAt l g d z0 z1 M pn ls (.ref x :: st) σ K) : zAt l g d z0 z1 M pc ls st σ K := by
  subst hn
  intro p e R s m args below meth c Q C H locs mls h1 h2 h3 h4 h5
  exact lv_aload_n C.1 C.2.1 hd hi (zL_at h5 (v := .ref x) hl rfl) (k p e R s m args below meth c Q C H locs mls h1 h2 h3 h4 h5)
theorem z_aload {l : Launch} {g : zG} {d z0 z1 : Nat} {M : zM} {pc pn : Nat} {ls st : List Value} {σ : zS} {K : Option Value → zS → Prop} {i : Nat} {x : Nat} (hd : decode M.2.1 pc = .ok (.aload i, 2)) (hl : ls[i]? = some (.ref x)) (hn : pc + 2 = pn) (k : zAt l g d z0 z1 M pn ls (.ref x :: st) σ K) : zAt l g d z0 z1 M pc ls st σ K := by
  subst hn
  intro p e R s m args below meth c Q C H locs mls h1 h2 h3 h4 h5
  exact lv_aload C.1 C.2.1 hd (zL_at h5 (v := .ref x) hl rfl) (k p e R s m args below meth c Q C H locs mls h1 h2 h3 h4 h5)
theorem z_istore_n {l : Launch} {g : zG} {d z0 z1 : Nat} {M : zM} {pc pn : Nat} {ls st : List Value} {σ : zS} {K : Option Value → zS → Prop} {j : Fin 4} {i : Nat} {x : Int32} (hd : decode M.2.1 pc = .ok (.istore_n j, 1)) (hi : (j : Nat) = i) (hM : i < M.2.2.1) (hk : zok ls i) (hn : pc + 1 = pn) (k : zAt l g d z0 z1 M pn (ls.set i (.int x)) st σ K) : zAt l g d z0 z1 M pc ls (.int x :: st) σ K := by
  subst hn
  intro p e R s m args below meth c Q C H locs mls h1 h2 h3 h4 h5
  exact lv_istore_n C.1 C.2.1 hd hi h5 hM rfl (fun m9 h9 => k p e R s m args below meth c Q C H locs m9 h1 h2 h3 h4 (zL_set (x := .int x) h9 hk))
theorem z_istore {l : Launch} {g : zG} {d z0 z1 : Nat} {M : zM} {pc pn : Nat} {ls st : List Value} {σ : zS} {K : Option Value → zS → Prop} {i : Nat} {x : Int32} (hd : decode M.2.1 pc = .ok (.istore i, 2)) (hM : i < M.2.2.1) (hk : zok ls i) (hn : pc + 2 = pn) (k : zAt l g d z0 z1 M pn (ls.set i (.int x)) st σ K) : zAt l g d z0 z1 M pc ls (.int x :: st) σ K := by
  subst hn
  intro p e R s m args below meth c Q C H locs mls h1 h2 h3 h4 h5
  exact lv_istore C.1 C.2.1 hd h5 hM rfl (fun m9 h9 => k p e R s m args below meth c Q C H locs m9 h1 h2 h3 h4 (zL_set (x := .int x) h9 hk))
theorem z_astore_n {l : Launch} {g : zG} {d z0 z1 : Nat} {M : zM} {pc pn : Nat} {ls st : List Value} {σ : zS} {K : Option Value → zS → Prop} {j : Fin 4} {i : Nat} {x : Nat} (hd : decode M.2.1 pc = .ok (.astore_n j, 1)) (hi : (j : Nat) = i) (hM : i < M.2.2.1) (hk : zok ls i) (hn : pc + 1 = pn) (k : zAt l g d z0 z1 M pn (ls.set i (.ref x)) st σ K) : zAt l g d z0 z1 M pc ls (.ref x :: st) σ K := by
  subst hn
  intro p e R s m args below meth c Q C H locs mls h1 h2 h3 h4 h5
  exact lv_astore_n C.1 C.2.1 hd hi h5 hM rfl (fun m9 h9 => k p e R s m args below meth c Q C H locs m9 h1 h2 h3 h4 (zL_set (x := .ref x) h9 hk))
theorem z_astore {l : Launch} {g : zG} {d z0 z1 : Nat} {M : zM} {pc pn : Nat} {ls st : List Value} {σ : zS} {K : Option Value → zS → Prop} {i : Nat} {x : Nat} (hd : decode M.2.1 pc = .ok (.astore i, 2)) (hM : i < M.2.2.1) (hk : zok ls i) (hn : pc + 2 = pn) (k : zAt l g d z0 z1 M pn (ls.set i (.ref x)) st σ K) : zAt l g d z0 z1 M pc ls (.ref x :: st) σ K := by
  subst hn
  intro p e R s m args below meth c Q C H locs mls h1 h2 h3 h4 h5
  exact lv_astore C.1 C.2.1 hd h5 hM rfl (fun m9 h9 => k p e R s m args below meth c Q C H locs m9 h1 h2 h3 h4 (zL_set (x := .ref x) h9 hk))
theorem z_lstore_n {l : Launch} {g : zG} {d z0 z1 : Nat} {M : zM} {pc pn : Nat} {ls st : List Value} {σ : zS} {K : Option Value → zS → Prop} {j : Fin 4} {i : Nat} {x : Int64} (hd : decode M.2.1 pc = .ok (.lstore_n j, 1)) (hi : (j : Nat) = i) (hM : i + 1 < M.2.2.1) (hk : zok ls i) (hn : pc + 1 = pn) (k : zAt l g d z0 z1 M pn ((ls.set i (.long x)).set (i + 1) zJ) st σ K) : zAt l g d z0 z1 M pc ls (.long x :: st) σ K := by
  subst hn
  intro p e R s m args below meth c Q C H locs mls h1 h2 h3 h4 h5
  exact lv_lstore_n C.1 C.2.1 hd hi h5 hM rfl (fun m9 h9 => k p e R s m args below meth c Q C H locs m9 h1 h2 h3 h4 (zL_setL h9 hk))
theorem z_lstore {l : Launch} {g : zG} {d z0 z1 : Nat} {M : zM} {pc pn : Nat} {ls st : List Value} {σ : zS} {K : Option Value → zS → Prop} {i : Nat} {x : Int64} (hd : decode M.2.1 pc = .ok (.lstore i, 2)) (hM : i + 1 < M.2.2.1) (hk : zok ls i) (hn : pc + 2 = pn) (k : zAt l g d z0 z1 M pn ((ls.set i (.long x)).set (i + 1) zJ) st σ K) : zAt l g d z0 z1 M pc ls (.long x :: st) σ K := by
  subst hn
  intro p e R s m args below meth c Q C H locs mls h1 h2 h3 h4 h5
  exact lv_lstore C.1 C.2.1 hd h5 hM rfl (fun m9 h9 => k p e R s m args below meth c Q C H locs m9 h1 h2 h3 h4 (zL_setL h9 hk))
theorem z_iinc {l : Launch} {g : zG} {d z0 z1 : Nat} {M : zM} {pc pn : Nat} {ls st : List Value} {σ : zS} {K : Option Value → zS → Prop} {i : Nat} {n : Int} {x v : Int32} (hd : decode M.2.1 pc = .ok (.iinc i n, 3)) (hl : ls[i]? = some (.int x)) (hv : x + Int32.ofInt n = v) (hM : i < M.2.2.1) (hk : zok ls i) (hn : pc + 3 = pn) (k : zAt l g d z0 z1 M pn (ls.set i (.int v)) st σ K) : zAt l g d z0 z1 M pc ls st σ K := by
  subst hn
  intro p e R s m args below meth c Q C H locs mls h1 h2 h3 h4 h5
  obtain ⟨j, hj⟩ := List.getElem?_of_mem (zlv_mem.mpr ⟨.int x, hl, rfl, rfl⟩ : (i, Value.int x) ∈ zlv g ls)
  exact lv_iinc C.1 C.2.1 hd h5 hj hv hM rfl (fun m9 h9 => k p e R s m args below meth c Q C H locs m9 h1 h2 h3 h4 (zL_set (x := .int v) h9 hk))
theorem z_iadd {l : Launch} {g : zG} {d z0 z1 : Nat} {M : zM} {pc pn : Nat} {ls st : List Value} {σ : zS} {K : Option Value → zS → Prop} {x y : Int32} (hd : decode M.2.1 pc = .ok (.iadd, 1)) (hn : pc + 1 = pn) (k : zAt l g d z0 z1 M pn ls (.int (x + y) :: st) σ K) : zAt l g d z0 z1 M pc ls (.int y :: .int x :: st) σ K := by
  subst hn
  intro p e R s m args below meth c Q C H locs mls h1 h2 h3 h4 h5
  exact lv_iadd C.1 C.2.1 hd (k p e R s m args below meth c Q C H locs mls h1 h2 h3 h4 h5)
theorem z_isub {l : Launch} {g : zG} {d z0 z1 : Nat} {M : zM} {pc pn : Nat} {ls st : List Value} {σ : zS} {K : Option Value → zS → Prop} {x y : Int32} (hd : decode M.2.1 pc = .ok (.isub, 1)) (hn : pc + 1 = pn) (k : zAt l g d z0 z1 M pn ls (.int (x - y) :: st) σ K) : zAt l g d z0 z1 M pc ls (.int y :: .int x :: st) σ K := by
  subst hn
  intro p e R s m args below meth c Q C H locs mls h1 h2 h3 h4 h5
  exact lv_isub C.1 C.2.1 hd (k p e R s m args below meth c Q C H locs mls h1 h2 h3 h4 h5)
theorem z_imul {l : Launch} {g : zG} {d z0 z1 : Nat} {M : zM} {pc pn : Nat} {ls st : List Value} {σ : zS} {K : Option Value → zS → Prop} {x y : Int32} (hd : decode M.2.1 pc = .ok (.imul, 1)) (hn : pc + 1 = pn) (k : zAt l g d z0 z1 M pn ls (.int (x * y) :: st) σ K) : zAt l g d z0 z1 M pc ls (.int y :: .int x :: st) σ K := by
  subst hn
  intro p e R s m args below meth c Q C H locs mls h1 h2 h3 h4 h5
  exact lv_imul C.1 C.2.1 hd (k p e R s m args below meth c Q C H locs mls h1 h2 h3 h4 h5)
theorem z_iand {l : Launch} {g : zG} {d z0 z1 : Nat} {M : zM} {pc pn : Nat} {ls st : List Value} {σ : zS} {K : Option Value → zS → Prop} {x y : Int32} (hd : decode M.2.1 pc = .ok (.iand, 1)) (hn : pc + 1 = pn) (k : zAt l g d z0 z1 M pn ls (.int (x &&& y) :: st) σ K) : zAt l g d z0 z1 M pc ls (.int y :: .int x :: st) σ K := by
  subst hn
  intro p e R s m args below meth c Q C H locs mls h1 h2 h3 h4 h5
  exact lv_iand C.1 C.2.1 hd (k p e R s m args below meth c Q C H locs mls h1 h2 h3 h4 h5)
theorem z_ior {l : Launch} {g : zG} {d z0 z1 : Nat} {M : zM} {pc pn : Nat} {ls st : List Value} {σ : zS} {K : Option Value → zS → Prop} {x y : Int32} (hd : decode M.2.1 pc = .ok (.ior, 1)) (hn : pc + 1 = pn) (k : zAt l g d z0 z1 M pn ls (.int (x ||| y) :: st) σ K) : zAt l g d z0 z1 M pc ls (.int y :: .int x :: st) σ K := by
  subst hn
  intro p e R s m args below meth c Q C H locs mls h1 h2 h3 h4 h5
  exact lv_ior C.1 C.2.1 hd (k p e R s m args below meth c Q C H locs mls h1 h2 h3 h4 h5)
theorem z_ixor {l : Launch} {g : zG} {d z0 z1 : Nat} {M : zM} {pc pn : Nat} {ls st : List Value} {σ : zS} {K : Option Value → zS → Prop} {x y : Int32} (hd : decode M.2.1 pc = .ok (.ixor, 1)) (hn : pc + 1 = pn) (k : zAt l g d z0 z1 M pn ls (.int (x ^^^ y) :: st) σ K) : zAt l g d z0 z1 M pc ls (.int y :: .int x :: st) σ K := by
  subst hn
  intro p e R s m args below meth c Q C H locs mls h1 h2 h3 h4 h5
  exact lv_ixor C.1 C.2.1 hd (k p e R s m args below meth c Q C H locs mls h1 h2 h3 h4 h5)
theorem z_idiv {l : Launch} {g : zG} {d z0 z1 : Nat} {M : zM} {pc pn : Nat} {ls st : List Value} {σ : zS} {K : Option Value → zS → Prop} {x y : Int32} (hd : decode M.2.1 pc = .ok (.idiv, 1)) (hne : ¬ y = 0) (hn : pc + 1 = pn) (k : zAt l g d z0 z1 M pn ls (.int (x / y) :: st) σ K) : zAt l g d z0 z1 M pc ls (.int y :: .int x :: st) σ K := by
  subst hn
  intro p e R s m args below meth c Q C H locs mls h1 h2 h3 h4 h5
  exact lv_idiv C.1 C.2.1 hd hne (k p e R s m args below meth c Q C H locs mls h1 h2 h3 h4 h5)
theorem z_irem {l : Launch} {g : zG} {d z0 z1 : Nat} {M : zM} {pc pn : Nat} {ls st : List Value} {σ : zS} {K : Option Value → zS → Prop} {x y : Int32} (hd : decode M.2.1 pc = .ok (.irem, 1)) (hne : ¬ y = 0) (hn : pc + 1 = pn) (k : zAt l g d z0 z1 M pn ls (.int (x % y) :: st) σ K) : zAt l g d z0 z1 M pc ls (.int y :: .int x :: st) σ K := by
  subst hn
  intro p e R s m args below meth c Q C H locs mls h1 h2 h3 h4 h5
  exact lv_irem C.1 C.2.1 hd hne (by rw [zrem_eq]; exact (k p e R s m args below meth c Q C H locs mls h1 h2 h3 h4 h5))
theorem z_ishl {l : Launch} {g : zG} {d z0 z1 : Nat} {M : zM} {pc pn : Nat} {ls st : List Value} {σ : zS} {K : Option Value → zS → Prop} {x y : Int32} (hd : decode M.2.1 pc = .ok (.ishl, 1)) (hn : pc + 1 = pn) (k : zAt l g d z0 z1 M pn ls (.int (x <<< (y &&& 31)) :: st) σ K) : zAt l g d z0 z1 M pc ls (.int y :: .int x :: st) σ K := by
  subst hn
  intro p e R s m args below meth c Q C H locs mls h1 h2 h3 h4 h5
  exact lv_ishl C.1 C.2.1 hd (k p e R s m args below meth c Q C H locs mls h1 h2 h3 h4 h5)
theorem z_ishr {l : Launch} {g : zG} {d z0 z1 : Nat} {M : zM} {pc pn : Nat} {ls st : List Value} {σ : zS} {K : Option Value → zS → Prop} {x y : Int32} (hd : decode M.2.1 pc = .ok (.ishr, 1)) (hn : pc + 1 = pn) (k : zAt l g d z0 z1 M pn ls (.int (x >>> (y &&& 31)) :: st) σ K) : zAt l g d z0 z1 M pc ls (.int y :: .int x :: st) σ K := by
  subst hn
  intro p e R s m args below meth c Q C H locs mls h1 h2 h3 h4 h5
  exact lv_ishr C.1 C.2.1 hd (k p e R s m args below meth c Q C H locs mls h1 h2 h3 h4 h5)
theorem z_iushr {l : Launch} {g : zG} {d z0 z1 : Nat} {M : zM} {pc pn : Nat} {ls st : List Value} {σ : zS} {K : Option Value → zS → Prop} {x y : Int32} (hd : decode M.2.1 pc = .ok (.iushr, 1)) (hn : pc + 1 = pn) (k : zAt l g d z0 z1 M pn ls (.int (zushr x y) :: st) σ K) : zAt l g d z0 z1 M pc ls (.int y :: .int x :: st) σ K := by
  subst hn
  intro p e R s m args below meth c Q C H locs mls h1 h2 h3 h4 h5
  exact lv_iushr C.1 C.2.1 hd rfl (k p e R s m args below meth c Q C H locs mls h1 h2 h3 h4 h5)
theorem z_ineg {l : Launch} {g : zG} {d z0 z1 : Nat} {M : zM} {pc pn : Nat} {ls st : List Value} {σ : zS} {K : Option Value → zS → Prop} {x : Int32} (hd : decode M.2.1 pc = .ok (.ineg, 1)) (hn : pc + 1 = pn) (k : zAt l g d z0 z1 M pn ls (.int (-x) :: st) σ K) : zAt l g d z0 z1 M pc ls (.int x :: st) σ K := by
  subst hn
  intro p e R s m args below meth c Q C H locs mls h1 h2 h3 h4 h5
  exact lv_ineg C.1 C.2.1 hd (k p e R s m args below meth c Q C H locs mls h1 h2 h3 h4 h5)
theorem z_ladd {l : Launch} {g : zG} {d z0 z1 : Nat} {M : zM} {pc pn : Nat} {ls st : List Value} {σ : zS} {K : Option Value → zS → Prop} {x y : Int64} (hd : decode M.2.1 pc = .ok (.ladd, 1)) (hn : pc + 1 = pn) (k : zAt l g d z0 z1 M pn ls (.long (x + y) :: st) σ K) : zAt l g d z0 z1 M pc ls (.long y :: .long x :: st) σ K := by
  subst hn
  intro p e R s m args below meth c Q C H locs mls h1 h2 h3 h4 h5
  exact lv_ladd C.1 C.2.1 hd (k p e R s m args below meth c Q C H locs mls h1 h2 h3 h4 h5)
theorem z_lsub {l : Launch} {g : zG} {d z0 z1 : Nat} {M : zM} {pc pn : Nat} {ls st : List Value} {σ : zS} {K : Option Value → zS → Prop} {x y : Int64} (hd : decode M.2.1 pc = .ok (.lsub, 1)) (hn : pc + 1 = pn) (k : zAt l g d z0 z1 M pn ls (.long (x - y) :: st) σ K) : zAt l g d z0 z1 M pc ls (.long y :: .long x :: st) σ K := by
  subst hn
  intro p e R s m args below meth c Q C H locs mls h1 h2 h3 h4 h5
  exact lv_lsub C.1 C.2.1 hd (k p e R s m args below meth c Q C H locs mls h1 h2 h3 h4 h5)
theorem z_lmul {l : Launch} {g : zG} {d z0 z1 : Nat} {M : zM} {pc pn : Nat} {ls st : List Value} {σ : zS} {K : Option Value → zS → Prop} {x y : Int64} (hd : decode M.2.1 pc = .ok (.lmul, 1)) (hn : pc + 1 = pn) (k : zAt l g d z0 z1 M pn ls (.long (x * y) :: st) σ K) : zAt l g d z0 z1 M pc ls (.long y :: .long x :: st) σ K := by
  subst hn
  intro p e R s m args below meth c Q C H locs mls h1 h2 h3 h4 h5
  exact lv_lmul C.1 C.2.1 hd (k p e R s m args below meth c Q C H locs mls h1 h2 h3 h4 h5)
theorem z_land {l : Launch} {g : zG} {d z0 z1 : Nat} {M : zM} {pc pn : Nat} {ls st : List Value} {σ : zS} {K : Option Value → zS → Prop} {x y : Int64} (hd : decode M.2.1 pc = .ok (.land, 1)) (hn : pc + 1 = pn) (k : zAt l g d z0 z1 M pn ls (.long (x &&& y) :: st) σ K) : zAt l g d z0 z1 M pc ls (.long y :: .long x :: st) σ K := by
  subst hn
  intro p e R s m args below meth c Q C H locs mls h1 h2 h3 h4 h5
  exact lv_land C.1 C.2.1 hd (k p e R s m args below meth c Q C H locs mls h1 h2 h3 h4 h5)
theorem z_ldiv {l : Launch} {g : zG} {d z0 z1 : Nat} {M : zM} {pc pn : Nat} {ls st : List Value} {σ : zS} {K : Option Value → zS → Prop} {x y : Int64} (hd : decode M.2.1 pc = .ok (.ldiv, 1)) (hne : ¬ y = 0) (hn : pc + 1 = pn) (k : zAt l g d z0 z1 M pn ls (.long (x / y) :: st) σ K) : zAt l g d z0 z1 M pc ls (.long y :: .long x :: st) σ K := by
  subst hn
  intro p e R s m args below meth c Q C H locs mls h1 h2 h3 h4 h5
  exact lv_ldiv C.1 C.2.1 hd hne (k p e R s m args below meth c Q C H locs mls h1 h2 h3 h4 h5)
theorem z_lrem {l : Launch} {g : zG} {d z0 z1 : Nat} {M : zM} {pc pn : Nat} {ls st : List Value} {σ : zS} {K : Option Value → zS → Prop} {x y : Int64} (hd : decode M.2.1 pc = .ok (.lrem, 1)) (hne : ¬ y = 0) (hn : pc + 1 = pn) (k : zAt l g d z0 z1 M pn ls (.long (x % y) :: st) σ K) : zAt l g d z0 z1 M pc ls (.long y :: .long x :: st) σ K := by
  subst hn
  intro p e R s m args below meth c Q C H locs mls h1 h2 h3 h4 h5
  exact lv_lrem C.1 C.2.1 hd hne (by rw [zrem_eqL]; exact (k p e R s m args below meth c Q C H locs mls h1 h2 h3 h4 h5))
theorem z_i2l {l : Launch} {g : zG} {d z0 z1 : Nat} {M : zM} {pc pn : Nat} {ls st : List Value} {σ : zS} {K : Option Value → zS → Prop} {x : Int32} (hd : decode M.2.1 pc = .ok (.i2l, 1)) (hn : pc + 1 = pn) (k : zAt l g d z0 z1 M pn ls (.long x.toInt64 :: st) σ K) : zAt l g d z0 z1 M pc ls (.int x :: st) σ K := by
  subst hn
  intro p e R s m args below meth c Q C H locs mls h1 h2 h3 h4 h5
  exact lv_i2l C.1 C.2.1 hd rfl (k p e R s m args below meth c Q C H locs mls h1 h2 h3 h4 h5)
theorem z_l2i {l : Launch} {g : zG} {d z0 z1 : Nat} {M : zM} {pc pn : Nat} {ls st : List Value} {σ : zS} {K : Option Value → zS → Prop} {x : Int64} (hd : decode M.2.1 pc = .ok (.l2i, 1)) (hn : pc + 1 = pn) (k : zAt l g d z0 z1 M pn ls (.int x.toInt32 :: st) σ K) : zAt l g d z0 z1 M pc ls (.long x :: st) σ K := by
  subst hn
  intro p e R s m args below meth c Q C H locs mls h1 h2 h3 h4 h5
  exact lv_l2i C.1 C.2.1 hd rfl (k p e R s m args below meth c Q C H locs mls h1 h2 h3 h4 h5)
theorem z_i2b {l : Launch} {g : zG} {d z0 z1 : Nat} {M : zM} {pc pn : Nat} {ls st : List Value} {σ : zS} {K : Option Value → zS → Prop} {x : Int32} (hd : decode M.2.1 pc = .ok (.i2b, 1)) (hn : pc + 1 = pn) (k : zAt l g d z0 z1 M pn ls (.int x.toInt8.toInt32 :: st) σ K) : zAt l g d z0 z1 M pc ls (.int x :: st) σ K := by
  subst hn
  intro p e R s m args below meth c Q C H locs mls h1 h2 h3 h4 h5
  exact lv_i2b C.1 C.2.1 hd rfl (k p e R s m args below meth c Q C H locs mls h1 h2 h3 h4 h5)
theorem z_i2c {l : Launch} {g : zG} {d z0 z1 : Nat} {M : zM} {pc pn : Nat} {ls st : List Value} {σ : zS} {K : Option Value → zS → Prop} {x : Int32} (hd : decode M.2.1 pc = .ok (.i2c, 1)) (hn : pc + 1 = pn) (k : zAt l g d z0 z1 M pn ls (.int (x.toUInt32 % 65536).toInt32 :: st) σ K) : zAt l g d z0 z1 M pc ls (.int x :: st) σ K := by
  subst hn
  intro p e R s m args below meth c Q C H locs mls h1 h2 h3 h4 h5
  exact lv_i2c C.1 C.2.1 hd rfl (k p e R s m args below meth c Q C H locs mls h1 h2 h3 h4 h5)
theorem z_lcmp {l : Launch} {g : zG} {d z0 z1 : Nat} {M : zM} {pc pn : Nat} {ls st : List Value} {σ : zS} {K : Option Value → zS → Prop} {x y : Int64} (hd : decode M.2.1 pc = .ok (.lcmp, 1)) (hn : pc + 1 = pn) (k : zAt l g d z0 z1 M pn ls (.int (lg_cmp x y) :: st) σ K) : zAt l g d z0 z1 M pc ls (.long y :: .long x :: st) σ K := by
  subst hn
  intro p e R s m args below meth c Q C H locs mls h1 h2 h3 h4 h5
  exact W.lcmp C.1 C.2.1 hd (k p e R s m args below meth c Q C H locs mls h1 h2 h3 h4 h5)
theorem z_dup {l : Launch} {g : zG} {d z0 z1 : Nat} {M : zM} {pc pn : Nat} {ls st : List Value} {σ : zS} {K : Option Value → zS → Prop} {a : Value} (hd : decode M.2.1 pc = .ok (.dup, 1)) (ha : a.category = 1) (hn : pc + 1 = pn) (k : zAt l g d z0 z1 M pn ls (a :: a :: st) σ K) : zAt l g d z0 z1 M pc ls (a :: st) σ K := by
  subst hn
  intro p e R s m args below meth c Q C H locs mls h1 h2 h3 h4 h5
  exact lv_dup C.1 C.2.1 hd ((zmv_cat g a).trans ha) (k p e R s m args below meth c Q C H locs mls h1 h2 h3 h4 h5)
theorem z_dup_x1 {l : Launch} {g : zG} {d z0 z1 : Nat} {M : zM} {pc pn : Nat} {ls st : List Value} {σ : zS} {K : Option Value → zS → Prop} {a b : Value} (hd : decode M.2.1 pc = .ok (.dup_x1, 1)) (ha : a.category = 1) (hb : b.category = 1) (hn : pc + 1 = pn) (k : zAt l g d z0 z1 M pn ls (a :: b :: a :: st) σ K) : zAt l g d z0 z1 M pc ls (a :: b :: st) σ K := by
  subst hn
  intro p e R s m args below meth c Q C H locs mls h1 h2 h3 h4 h5
  exact lv_dup_x1 C.1 C.2.1 hd ((zmv_cat g a).trans ha) ((zmv_cat g b).trans hb) (k p e R s m args below meth c Q C H locs mls h1 h2 h3 h4 h5)
theorem z_dup2 {l : Launch} {g : zG} {d z0 z1 : Nat} {M : zM} {pc pn : Nat} {ls st : List Value} {σ : zS} {K : Option Value → zS → Prop} {a b : Value} (hd : decode M.2.1 pc = .ok (.dup2, 1)) (ha : a.category = 1) (hb : b.category = 1) (hn : pc + 1 = pn) (k : zAt l g d z0 z1 M pn ls (a :: b :: a :: b :: st) σ K) : zAt l g d z0 z1 M pc ls (a :: b :: st) σ K := by
  subst hn
  intro p e R s m args below meth c Q C H locs mls h1 h2 h3 h4 h5
  exact lv_dup2_11 C.1 C.2.1 hd ((zmv_cat g a).trans ha) ((zmv_cat g b).trans hb) (k p e R s m args below meth c Q C H locs mls h1 h2 h3 h4 h5)
theorem z_goto {l : Launch} {g : zG} {d z0 z1 : Nat} {M : zM} {pc pn : Nat} {ls st : List Value} {σ : zS} {K : Option Value → zS → Prop} {off : Int} (hd : decode M.2.1 pc = .ok (.goto off, 3)) (hn : (pc : Int) + off = (pn : Int)) (k : zAt l g d z0 z1 M pn ls st σ K) : zAt l g d z0 z1 M pc ls st σ K := by
  intro p e R s m args below meth c Q C H locs mls h1 h2 h3 h4 h5
  exact lv_goto C.1 C.2.1 hd hn (k p e R s m args below meth c Q C H locs mls h1 h2 h3 h4 h5)
theorem z_if_eq {l : Launch} {g : zG} {d z0 z1 : Nat} {M : zM} {pc pn : Nat} {ls st : List Value} {σ : zS} {K : Option Value → zS → Prop} {x : Int32} {off : Int} {pt : Nat} (hd : decode M.2.1 pc = .ok (.ifCond .eq off, 3)) (ht : (pc : Int) + off = (pt : Int)) (hn : pc + 3 = pn) (kt : x = 0 → zAt l g d z0 z1 M pt ls st σ K) (kf : ¬ (x = 0) → zAt l g d z0 z1 M pn ls st σ K) : zAt l g d z0 z1 M pc ls (.int x :: st) σ K := by
  subst hn
  intro p e R s m args below meth c Q C H locs mls h1 h2 h3 h4 h5
  exact lv_if_eq C.1 C.2.1 hd ht (fun h => kt h p e R s m args below meth c Q C H locs mls h1 h2 h3 h4 h5) (fun h => kf h p e R s m args below meth c Q C H locs mls h1 h2 h3 h4 h5)
theorem z_icmp_eq {l : Launch} {g : zG} {d z0 z1 : Nat} {M : zM} {pc pn : Nat} {ls st : List Value} {σ : zS} {K : Option Value → zS → Prop} {x y : Int32} {off : Int} {pt : Nat} (hd : decode M.2.1 pc = .ok (.if_icmp .eq off, 3)) (ht : (pc : Int) + off = (pt : Int)) (hn : pc + 3 = pn) (kt : x = y → zAt l g d z0 z1 M pt ls st σ K) (kf : ¬ (x = y) → zAt l g d z0 z1 M pn ls st σ K) : zAt l g d z0 z1 M pc ls (.int y :: .int x :: st) σ K := by
  subst hn
  intro p e R s m args below meth c Q C H locs mls h1 h2 h3 h4 h5
  exact lv_icmp_eq C.1 C.2.1 hd ht (fun h => kt h p e R s m args below meth c Q C H locs mls h1 h2 h3 h4 h5) (fun h => kf h p e R s m args below meth c Q C H locs mls h1 h2 h3 h4 h5)
theorem z_if_ne {l : Launch} {g : zG} {d z0 z1 : Nat} {M : zM} {pc pn : Nat} {ls st : List Value} {σ : zS} {K : Option Value → zS → Prop} {x : Int32} {off : Int} {pt : Nat} (hd : decode M.2.1 pc = .ok (.ifCond .ne off, 3)) (ht : (pc : Int) + off = (pt : Int)) (hn : pc + 3 = pn) (kt : ¬ x = 0 → zAt l g d z0 z1 M pt ls st σ K) (kf : x = 0 → zAt l g d z0 z1 M pn ls st σ K) : zAt l g d z0 z1 M pc ls (.int x :: st) σ K := by
  subst hn
  intro p e R s m args below meth c Q C H locs mls h1 h2 h3 h4 h5
  exact lv_if_ne C.1 C.2.1 hd ht (fun h => kt h p e R s m args below meth c Q C H locs mls h1 h2 h3 h4 h5) (fun h => kf h p e R s m args below meth c Q C H locs mls h1 h2 h3 h4 h5)
theorem z_icmp_ne {l : Launch} {g : zG} {d z0 z1 : Nat} {M : zM} {pc pn : Nat} {ls st : List Value} {σ : zS} {K : Option Value → zS → Prop} {x y : Int32} {off : Int} {pt : Nat} (hd : decode M.2.1 pc = .ok (.if_icmp .ne off, 3)) (ht : (pc : Int) + off = (pt : Int)) (hn : pc + 3 = pn) (kt : ¬ x = y → zAt l g d z0 z1 M pt ls st σ K) (kf : x = y → zAt l g d z0 z1 M pn ls st σ K) : zAt l g d z0 z1 M pc ls (.int y :: .int x :: st) σ K := by
  subst hn
  intro p e R s m args below meth c Q C H locs mls h1 h2 h3 h4 h5
  exact lv_icmp_ne C.1 C.2.1 hd ht (fun h => kt h p e R s m args below meth c Q C H locs mls h1 h2 h3 h4 h5) (fun h => kf h p e R s m args below meth c Q C H locs mls h1 h2 h3 h4 h5)
theorem z_if_lt {l : Launch} {g : zG} {d z0 z1 : Nat} {M : zM} {pc pn : Nat} {ls st : List Value} {σ : zS} {K : Option Value → zS → Prop} {x : Int32} {off : Int} {pt : Nat} (hd : decode M.2.1 pc = .ok (.ifCond .lt off, 3)) (ht : (pc : Int) + off = (pt : Int)) (hn : pc + 3 = pn) (kt : x < 0 → zAt l g d z0 z1 M pt ls st σ K) (kf : ¬ (x < 0) → zAt l g d z0 z1 M pn ls st σ K) : zAt l g d z0 z1 M pc ls (.int x :: st) σ K := by
  subst hn
  intro p e R s m args below meth c Q C H locs mls h1 h2 h3 h4 h5
  exact lv_if_lt C.1 C.2.1 hd ht (fun h => kt h p e R s m args below meth c Q C H locs mls h1 h2 h3 h4 h5) (fun h => kf h p e R s m args below meth c Q C H locs mls h1 h2 h3 h4 h5)
theorem z_icmp_lt {l : Launch} {g : zG} {d z0 z1 : Nat} {M : zM} {pc pn : Nat} {ls st : List Value} {σ : zS} {K : Option Value → zS → Prop} {x y : Int32} {off : Int} {pt : Nat} (hd : decode M.2.1 pc = .ok (.if_icmp .lt off, 3)) (ht : (pc : Int) + off = (pt : Int)) (hn : pc + 3 = pn) (kt : x < y → zAt l g d z0 z1 M pt ls st σ K) (kf : ¬ (x < y) → zAt l g d z0 z1 M pn ls st σ K) : zAt l g d z0 z1 M pc ls (.int y :: .int x :: st) σ K := by
  subst hn
  intro p e R s m args below meth c Q C H locs mls h1 h2 h3 h4 h5
  exact lv_icmp_lt C.1 C.2.1 hd ht (fun h => kt h p e R s m args below meth c Q C H locs mls h1 h2 h3 h4 h5) (fun h => kf h p e R s m args below meth c Q C H locs mls h1 h2 h3 h4 h5)
theorem z_if_ge {l : Launch} {g : zG} {d z0 z1 : Nat} {M : zM} {pc pn : Nat} {ls st : List Value} {σ : zS} {K : Option Value → zS → Prop} {x : Int32} {off : Int} {pt : Nat} (hd : decode M.2.1 pc = .ok (.ifCond .ge off, 3)) (ht : (pc : Int) + off = (pt : Int)) (hn : pc + 3 = pn) (kt : 0 ≤ x → zAt l g d z0 z1 M pt ls st σ K) (kf : ¬ (0 ≤ x) → zAt l g d z0 z1 M pn ls st σ K) : zAt l g d z0 z1 M pc ls (.int x :: st) σ K := by
  subst hn
  intro p e R s m args below meth c Q C H locs mls h1 h2 h3 h4 h5
  exact lv_if_ge C.1 C.2.1 hd ht (fun h => kt h p e R s m args below meth c Q C H locs mls h1 h2 h3 h4 h5) (fun h => kf h p e R s m args below meth c Q C H locs mls h1 h2 h3 h4 h5)
theorem z_icmp_ge {l : Launch} {g : zG} {d z0 z1 : Nat} {M : zM} {pc pn : Nat} {ls st : List Value} {σ : zS} {K : Option Value → zS → Prop} {x y : Int32} {off : Int} {pt : Nat} (hd : decode M.2.1 pc = .ok (.if_icmp .ge off, 3)) (ht : (pc : Int) + off = (pt : Int)) (hn : pc + 3 = pn) (kt : y ≤ x → zAt l g d z0 z1 M pt ls st σ K) (kf : ¬ (y ≤ x) → zAt l g d z0 z1 M pn ls st σ K) : zAt l g d z0 z1 M pc ls (.int y :: .int x :: st) σ K := by
  subst hn
  intro p e R s m args below meth c Q C H locs mls h1 h2 h3 h4 h5
  exact lv_icmp_ge C.1 C.2.1 hd ht (fun h => kt h p e R s m args below meth c Q C H locs mls h1 h2 h3 h4 h5) (fun h => kf h p e R s m args below meth c Q C H locs mls h1 h2 h3 h4 h5)
theorem z_if_gt {l : Launch} {g : zG} {d z0 z1 : Nat} {M : zM} {pc pn : Nat} {ls st : List Value} {σ : zS} {K : Option Value → zS → Prop} {x : Int32} {off : Int} {pt : Nat} (hd : decode M.2.1 pc = .ok (.ifCond .gt off, 3)) (ht : (pc : Int) + off = (pt : Int)) (hn : pc + 3 = pn) (kt : 0 < x → zAt l g d z0 z1 M pt ls st σ K) (kf : ¬ (0 < x) → zAt l g d z0 z1 M pn ls st σ K) : zAt l g d z0 z1 M pc ls (.int x :: st) σ K := by
  subst hn
  intro p e R s m args below meth c Q C H locs mls h1 h2 h3 h4 h5
  exact lv_if_gt C.1 C.2.1 hd ht (fun h => kt h p e R s m args below meth c Q C H locs mls h1 h2 h3 h4 h5) (fun h => kf h p e R s m args below meth c Q C H locs mls h1 h2 h3 h4 h5)
theorem z_icmp_gt {l : Launch} {g : zG} {d z0 z1 : Nat} {M : zM} {pc pn : Nat} {ls st : List Value} {σ : zS} {K : Option Value → zS → Prop} {x y : Int32} {off : Int} {pt : Nat} (hd : decode M.2.1 pc = .ok (.if_icmp .gt off, 3)) (ht : (pc : Int) + off = (pt : Int)) (hn : pc + 3 = pn) (kt : y < x → zAt l g d z0 z1 M pt ls st σ K) (kf : ¬ (y < x) → zAt l g d z0 z1 M pn ls st σ K) : zAt l g d z0 z1 M pc ls (.int y :: .int x :: st) σ K := by
  subst hn
  intro p e R s m args below meth c Q C H locs mls h1 h2 h3 h4 h5
  exact lv_icmp_gt C.1 C.2.1 hd ht (fun h => kt h p e R s m args below meth c Q C H locs mls h1 h2 h3 h4 h5) (fun h => kf h p e R s m args below meth c Q C H locs mls h1 h2 h3 h4 h5)
theorem z_if_le {l : Launch} {g : zG} {d z0 z1 : Nat} {M : zM} {pc pn : Nat} {ls st : List Value} {σ : zS} {K : Option Value → zS → Prop} {x : Int32} {off : Int} {pt : Nat} (hd : decode M.2.1 pc = .ok (.ifCond .le off, 3)) (ht : (pc : Int) + off = (pt : Int)) (hn : pc + 3 = pn) (kt : x ≤ 0 → zAt l g d z0 z1 M pt ls st σ K) (kf : ¬ (x ≤ 0) → zAt l g d z0 z1 M pn ls st σ K) : zAt l g d z0 z1 M pc ls (.int x :: st) σ K := by
  subst hn
  intro p e R s m args below meth c Q C H locs mls h1 h2 h3 h4 h5
  exact lv_if_le C.1 C.2.1 hd ht (fun h => kt h p e R s m args below meth c Q C H locs mls h1 h2 h3 h4 h5) (fun h => kf h p e R s m args below meth c Q C H locs mls h1 h2 h3 h4 h5)
theorem z_icmp_le {l : Launch} {g : zG} {d z0 z1 : Nat} {M : zM} {pc pn : Nat} {ls st : List Value} {σ : zS} {K : Option Value → zS → Prop} {x y : Int32} {off : Int} {pt : Nat} (hd : decode M.2.1 pc = .ok (.if_icmp .le off, 3)) (ht : (pc : Int) + off = (pt : Int)) (hn : pc + 3 = pn) (kt : x ≤ y → zAt l g d z0 z1 M pt ls st σ K) (kf : ¬ (x ≤ y) → zAt l g d z0 z1 M pn ls st σ K) : zAt l g d z0 z1 M pc ls (.int y :: .int x :: st) σ K := by
  subst hn
  intro p e R s m args below meth c Q C H locs mls h1 h2 h3 h4 h5
  exact lv_icmp_le C.1 C.2.1 hd ht (fun h => kt h p e R s m args below meth c Q C H locs mls h1 h2 h3 h4 h5) (fun h => kf h p e R s m args below meth c Q C H locs mls h1 h2 h3 h4 h5)
theorem z_ldc {l : Launch} {g : zG} {d z0 z1 : Nat} {M : zM} {pc pn : Nat} {ls st : List Value} {σ : zS} {K : Option Value → zS → Prop} {i : Nat} {v : Int32} (hq : Cond.constant M.1.cls i v ∈ lw_g) (hd : decode M.2.1 pc = .ok (.ldc i, 2)) (hn : pc + 2 = pn) (k : zAt l g d z0 z1 M pn ls (.int v :: st) σ K) : zAt l g d z0 z1 M pc ls st σ K := by
  subst hn
  intro p e R s m args below meth c Q C H locs mls h1 h2 h3 h4 h5
  exact lv_ldc C.1 C.2.1 C.2.2.2.2.1 (C.2.2.2.1 _ hq) hd (k p e R s m args below meth c Q C H locs mls h1 h2 h3 h4 h5)
theorem z_ldc_w {l : Launch} {g : zG} {d z0 z1 : Nat} {M : zM} {pc pn : Nat} {ls st : List Value} {σ : zS} {K : Option Value → zS → Prop} {i : Nat} {v : Int32} (hq : Cond.constant M.1.cls i v ∈ lw_g) (hd : decode M.2.1 pc = .ok (.ldc_w i, 3)) (hn : pc + 3 = pn) (k : zAt l g d z0 z1 M pn ls (.int v :: st) σ K) : zAt l g d z0 z1 M pc ls st σ K := by
  subst hn
  intro p e R s m args below meth c Q C H locs mls h1 h2 h3 h4 h5
  exact lv_ldcw C.1 C.2.1 C.2.2.2.2.1 (C.2.2.2.1 _ hq) hd (k p e R s m args below meth c Q C H locs mls h1 h2 h3 h4 h5)
theorem z_ldc2 {l : Launch} {g : zG} {d z0 z1 : Nat} {M : zM} {pc pn : Nat} {ls st : List Value} {σ : zS} {K : Option Value → zS → Prop} {i : Nat} {v : Int64} (hq : Cond.constantLong M.1.cls i v ∈ lw_g) (hd : decode M.2.1 pc = .ok (.ldc2_w i, 3)) (hn : pc + 3 = pn) (k : zAt l g d z0 z1 M pn ls (.long v :: st) σ K) : zAt l g d z0 z1 M pc ls st σ K := by
  subst hn
  intro p e R s m args below meth c Q C H locs mls h1 h2 h3 h4 h5
  exact lv_ldc2 C.1 C.2.1 C.2.2.2.2.1 (C.2.2.2.1 _ hq) hd (k p e R s m args below meth c Q C H locs mls h1 h2 h3 h4 h5)
theorem z_tableIn {l : Launch} {g : zG} {d z0 z1 : Nat} {M : zM} {pc : Nat} {ls st : List Value} {σ : zS} {K : Option Value → zS → Prop} {df lo hi : Int} {offs : Array Int} {len pt : Nat} {x : Int32} {off : Int} (hd : decode M.2.1 pc = .ok (.tableswitch df lo hi offs, len)) (a1 : ¬ x.toInt < lo) (a2 : ¬ hi < x.toInt) (ho : offs[(x.toInt - lo).toNat]? = some off) (ht : (pc : Int) + off = (pt : Int)) (k : zAt l g d z0 z1 M pt ls st σ K) : zAt l g d z0 z1 M pc ls (.int x :: st) σ K := by
  intro p e R s m args below meth c Q C H locs mls h1 h2 h3 h4 h5
  exact lv_tableIn C.1 C.2.1 hd a1 a2 ho ht (k p e R s m args below meth c Q C H locs mls h1 h2 h3 h4 h5)
theorem z_tableOut {l : Launch} {g : zG} {d z0 z1 : Nat} {M : zM} {pc : Nat} {ls st : List Value} {σ : zS} {K : Option Value → zS → Prop} {df lo hi : Int} {offs : Array Int} {len pt : Nat} {x : Int32} (hd : decode M.2.1 pc = .ok (.tableswitch df lo hi offs, len)) (a1 : x.toInt < lo ∨ hi < x.toInt) (ht : (pc : Int) + df = (pt : Int)) (k : zAt l g d z0 z1 M pt ls st σ K) : zAt l g d z0 z1 M pc ls (.int x :: st) σ K := by
  intro p e R s m args below meth c Q C H locs mls h1 h2 h3 h4 h5
  exact lv_tableOut C.1 C.2.1 hd a1 ht (k p e R s m args below meth c Q C H locs mls h1 h2 h3 h4 h5)
theorem z_lookup {l : Launch} {g : zG} {d z0 z1 : Nat} {M : zM} {pc : Nat} {ls st : List Value} {σ : zS} {K : Option Value → zS → Prop} {df : Int} {ps : Array (Int × Int)} {len pt : Nat} {x : Int32} {off : Int} (hd : decode M.2.1 pc = .ok (.lookupswitch df ps, len)) (hp : (ps.toList.zip (ps.toList.drop 1)).all (fun (a, b) => a.1 < b.1) = true) (ho : Op.lookupswitch.offset ps.toList df x.toInt = off) (ht : (pc : Int) + off = (pt : Int)) (k : zAt l g d z0 z1 M pt ls st σ K) : zAt l g d z0 z1 M pc ls (.int x :: st) σ K := by
  intro p e R s m args below meth c Q C H locs mls h1 h2 h3 h4 h5
  exact lv_lookup C.1 C.2.1 hd hp ho ht (k p e R s m args below meth c Q C H locs mls h1 h2 h3 h4 h5)
