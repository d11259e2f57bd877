/-! ===== the world: contents by object number and place; addresses, cells ===== -/
abbrev zS : Type := (Nat → Nat → Int32) × (Nat → Nat → Int64) × (Nat → Nat → Nat) × Nat
abbrev zG : Type := Nat × va_G × (Nat → ClassId) × (Nat → Nat) × Nat × (Nat → Int32)
def zI (σ : zS) (o k : Nat) (v : Int32) : zS := (fun p q => if p = o ∧ q = k then v else σ.1 p q, σ.2)
def zLg (σ : zS) (o k : Nat) (v : Int64) : zS := (σ.1, fun p q => if p = o ∧ q = k then v else σ.2.1 p q, σ.2.2)
def zRf (σ : zS) (o k : Nat) (v : Nat) : zS := (σ.1, σ.2.1, fun p q => if p = o ∧ q = k then v else σ.2.2.1 p q, σ.2.2.2)
def zNn (σ : zS) (n : Nat) : zS := (σ.1, σ.2.1, σ.2.2.1, n)
def zJ : Value := .float 0
def zisJ : Value → Bool
  | .float _ => true
  | _ => false
def zad (g : zG) (o : Nat) : Nat := if o < 64 then g.2.2.2.1 o else g.1 + (o - 64)
def zmv (g : zG) : Value → Value
  | .ref o => .ref (zad g o)
  | v => v
def zA (g : zG) : Nat → Prop := fun q => g.1 ≤ q
def zro (g : zG) (q : Nat) : Option Nat := if q = 0 then none else some (zad g q)
def ztc (t : FieldType) : Nat := match t with
  | .long => 2
  | .object _ => 3
  | .array _ => 3
  | _ => 0
def zfv (g : zG) (σ : zS) (o : Nat) (t : Nat) (k : Nat) : Value := if t = 2 then .long (σ.2.1 o k) else if t = 3 then va_rf (zro g (σ.2.2.1 o k)) else .int (σ.1 o k)
def zfl (g : zG) (σ : zS) (o c : Nat) : List Value := (List.range (zN c)).map (fun k => zfv g σ o (ztc (zty c k)) k)
def zcell (g : zG) (σ : zS) (o : Nat) : va_E :=
  if zk o < 20 then .inr (zk o - 1, zfl g σ o (zk o - 1))
  else if zk o < 23 then .inl (g.2.2.1 (zk o), zn o, .inl (σ.1 o))
  else .inl (g.2.2.1 (zk o), zn o, .inr (.inr (.inr (.inr (fun j => zro g (σ.2.2.1 o j))))))
def zW (g : zG) (σ : zS) (H : Heap) : Prop := H.size = g.1 + σ.2.2.2 ∧ ∀ o, 64 ≤ o → o < 64 + σ.2.2.2 → va_at g.2.1 vwCl (zad g o, zcell g σ o) H
def ztys (g : zG) : List (ClassId × FieldType) := [(g.2.2.1 20, .int), (g.2.2.1 21, .byte), (g.2.2.1 22, .boolean), (g.2.2.1 23, .object "MarshLights$Thing"), (g.2.2.1 24, .object "MarshLights$Telling"), (g.2.2.1 25, .array .int), (g.2.2.1 26, .object "java/lang/String")]
/-- what the makers of arrays ask of the tables -/
def zO (U : State) : Prop := va_AO "MarshLights$Thing" U ∧ va_AO "MarshLights$Telling" U ∧ va_AO "java/lang/String" U ∧ (Cond.arrayOver (.array .int)).before #[] U = true
theorem zOA_moved {u U : State} (hvm : u.vm.Alike U.vm) (h : (Cond.arrayOver (.array .int)).before #[] u = true) : (Cond.arrayOver (.array .int)).before #[] U = true := by
  have h9 := h
  simp only [Cond.before, Cond.holds, Cond.value, beq_iff_eq] at h9
  cases hc : u.vm.findClass (FieldType.array .int).toString with
  | none => simp [hc] at h9
  | some comp =>
    simp only [hc, Option.bind_some, Option.bind_eq_some_iff, Option.map_eq_some_iff] at h9
    obtain ⟨c, hi, k, hk, hb⟩ := h9
    obtain ⟨k', hk', he⟩ := hvm.2.2 _ _ hk
    have hi2 : (U.vm.classes.findIdx? fun (x : Class) => match x.kind with | .array component _ => component == comp | _ => false) = some c := by
      have a1 := va_idx_bare U.vm comp
      have a2 := va_idx_bare u.vm comp
      have a3 : U.vm.bare = u.vm.bare := by first | exact hvm.bare_eq | exact hvm.bare_eq.symm
      rw [a3] at a1
      exact a1.symm.trans (a2.trans hi)
    have f1 : U.vm.findClass (FieldType.array .int).toString = some comp := by rw [hvm.findClass]; exact hc
    have f2 : U.vm.findClass ("[" ++ (FieldType.array .int).toString) = u.vm.findClass ("[" ++ (FieldType.array .int).toString) := by rw [hvm.findClass]
    have hkind : k'.kind = k.kind := by rw [he]
    unfold Cond.before Cond.holds
    simp only [Cond.value]
    rw [f1, Option.bind_some]
    refine (congrArg (fun o : Option Nat => (o.bind (fun c => (U.vm.classes[c]?).map fun (k : Class) => match k.kind with | .array _ ty => decide (ty = FieldType.array .int) && decide (U.vm.findClass ("[" ++ (FieldType.array .int).toString) = some c) | _ => false) == some true)) hi2).trans ?_
    simp only [Option.bind_some, hk', Option.map_some, hkind, f2]
    have hbb : ∀ b : Bool, b = true → (some b == some true) = true := by rintro _ rfl; rfl
    exact hbb _ hb
theorem zO_moved {u U : State} (hvm : u.vm.Alike U.vm) (h : zO u) : zO U := ⟨va_AO.moved hvm h.1, va_AO.moved hvm h.2.1, va_AO.moved hvm h.2.2.1, zOA_moved hvm h.2.2.2⟩
/-- what stays for the whole run: the tables' classes, the words of the nest, the texts, a static -/
def zK (g : zG) (U : State) : Prop := va_K g.2.1 vwCl (ztys g) U ∧ (∀ w ∈ lw_n, va_Nw w U) ∧ vk_S 20 zSl zSb (fun i => g.2.2.2.1 (2 + i)) (fun i => g.2.2.2.1 (22 + i)) (zA g) U U.heap ∧ (∀ i, i < 20 → vk_R (zSo i).1 (zSo i).2.1 (zSo i).2.2 (g.2.2.2.1 (2 + i)) U) ∧ va_Z "java/lang/String" "COMPACT_STRINGS" "Z" (.int 1) (zA g) U U.heap ∧ (va_Z "jdk/internal/util/Preconditions" "SIOOBE_FORMATTER" "Ljava/util/function/BiFunction;" .null (zA g) U U.heap ∨ va_Z "jdk/internal/util/Preconditions" "SIOOBE_FORMATTER" "Ljava/util/function/BiFunction;" (.ref (g.2.2.2.1 63)) (zA g) U U.heap) ∧ va_X (g.2.2.2.1 1) g.2.2.2.2.1 g.2.2.2.2.2 U U.heap ∧ ¬ zA g (g.2.2.2.1 1) ∧ zO U
theorem zX_lt {b L : Nat} {xs : Nat → Int32} {U : State} {H : Heap} (h : va_X b L xs U H) : b < H.size := by
  obtain ⟨scr, h1, -⟩ := h
  exact (Array.getElem?_eq_some_iff.mp h1).1
theorem zNw_warm {w : Cond} (hw : w ∈ lw_n) {s U : State} (hW : s.WarmedH U.vm) (h : va_Nw w s) : va_Nw w U := by
  have hn : zNest w = true := (List.mem_filter.mp hw).2
  cases w with
  | fieldLinkNest a b c d e f => exact va_Nw.warmF hW h
  | methodLinkNest a b c d => exact va_Nw.warmM hW h
  | _ => simp [zNest] at hn
theorem zNw_same {w : Cond} (hw : w ∈ lw_n) {s U : State} (hW : s.vm = U.vm) (h : va_Nw w s) : va_Nw w U := by
  have hn : zNest w = true := (List.mem_filter.mp hw).2
  cases w with
  | fieldLinkNest a b c d e f => exact va_Nw.same rfl hW h
  | methodLinkNest a b c d => exact va_Nw.same rfl hW h
  | _ => simp [zNest] at hn
theorem zK_moved {g : zG} {s U : State} (hW : s.WarmedH U.vm) (hH : ∀ a : Nat, a < s.heap.size → ¬ zA g a → U.heap[a]? = s.heap[a]?) (h : zK g s) : zK g U :=
  ⟨va_K.moved hW.alike h.1, fun w hw => zNw_warm hw hW (h.2.1 w hw), vk_S.kept (vk_S.moved hW.alike h.2.2.1) hH, fun i hi => vk_R.warm hW (h.2.2.2.1 i hi), va_Z.kept (va_Z.moved hW.alike h.2.2.2.2.1) hH, h.2.2.2.2.2.1.imp (fun q => va_Z.kept (va_Z.moved hW.alike q) hH) (fun q => va_Z.kept (va_Z.moved hW.alike q) hH), (h.2.2.2.2.2.2.1.moved hW.alike).kept (hH _ (zX_lt h.2.2.2.2.2.2.1) h.2.2.2.2.2.2.2.1), h.2.2.2.2.2.2.2.1, zO_moved hW.alike h.2.2.2.2.2.2.2.2⟩
theorem zK_same {g : zG} {s U : State} (hW : s.vm = U.vm) (hH : U.heap = s.heap) (h : zK g s) : zK g U :=
  have ha : s.vm.Alike U.vm := hW ▸ Vm.Alike.refl s.vm
  ⟨va_K.moved ha h.1, fun w hw => zNw_same hw hW (h.2.1 w hw), vk_S.kept (vk_S.moved ha h.2.2.1) (fun a _ _ => by rw [hH]), fun i hi => vk_R.same hW.symm (h.2.2.2.1 i hi), va_Z.kept (va_Z.moved ha h.2.2.2.2.1) (fun a _ _ => by rw [hH]), h.2.2.2.2.2.1.imp (fun q => va_Z.kept (va_Z.moved ha q) (fun a _ _ => by rw [hH])) (fun q => va_Z.kept (va_Z.moved ha q) (fun a _ _ => by rw [hH])), (h.2.2.2.2.2.2.1.moved ha).kept (by rw [hH]), h.2.2.2.2.2.2.2.1, zO_moved ha h.2.2.2.2.2.2.2.2⟩
/-! ===== locals by place ===== -/
def zlv (g : zG) (ls : List Value) : List (Nat × Value) := (List.range ls.length).filterMap (fun i => match ls[i]? with
  | some v => if zisJ v then none else some (i, zmv g v)
  | none => none)
theorem zlv_mem {g : zG} {ls : List Value} {q : Nat × Value} : q ∈ zlv g ls ↔ ∃ v, ls[q.1]? = some v ∧ zisJ v = false ∧ q.2 = zmv g v := by
  unfold zlv
  rw [List.mem_filterMap]
  constructor
  · rintro ⟨i, hi, h⟩
    cases hv : ls[i]? with
    | none => rw [hv] at h; cases h
    | some v =>
      rw [hv] at h
      by_cases hj : zisJ v = true
      · simp [hj] at h
      · simp [hj] at h
        subst h
        exact ⟨v, hv, by simpa using hj, rfl⟩
  · rintro ⟨v, hv, hj, he⟩
    refine ⟨q.1, List.mem_range.mpr (List.getElem?_eq_some_iff.mp hv).1, ?_⟩
    rw [hv]
    simp [hj, ← he]
def zL (g : zG) (n : Nat) (ls : List Value) (m : Array Slot) : Prop := lv_has m n (zlv g ls)
theorem zL_at {g : zG} {n : Nat} {ls : List Value} {m : Array Slot} (h : zL g n ls m) {i : Nat} {v : Value} (hv : ls[i]? = some v) (hj : zisJ v = false) : m[i]? = some (.val (zmv g v)) :=
  h.2.2 (i, zmv g v) (zlv_mem.mpr ⟨v, hv, hj, rfl⟩)
theorem zL_sub {g : zG} {n : Nat} {l : List (Nat × Value)} {ls : List Value} {m : Array Slot} (h : lv_has m n l) (hs : ∀ i v, ls[i]? = some v → zisJ v = false → (i, zmv g v) ∈ l) : zL g n ls m :=
  ⟨h.1, h.2.1, fun q hq => by
    obtain ⟨v, h1, h2, h3⟩ := zlv_mem.mp hq
    have := hs q.1 v h1 h2
    rw [← h3] at this
    exact h.2.2 q this⟩
/-- no long just ahead of place i -/
def zok (ls : List Value) (i : Nat) : Prop := ∀ v, 0 < i → ls[i - 1]? = some v → v.category = 1
theorem zmv_cat (g : zG) (v : Value) : (zmv g v).category = v.category := by cases v <;> rfl
theorem zL_set {g : zG} {n : Nat} {ls : List Value} {m : Array Slot} {i : Nat} {x : Value} (h : lv_has m n ((i, zmv g x) :: (zlv g ls).filter (fun q => !(q.1 == i) && !(q.1 + 1 == i && q.2.category == 2)))) (hk : zok ls i) : zL g n (ls.set i x) m := by
  refine zL_sub h fun j v hv hj => ?_
  by_cases e : j = i
  · subst e
    have hlt := (List.getElem?_eq_some_iff.mp hv).1
    rw [List.getElem?_set_self (by simpa using hlt)] at hv
    cases hv
    exact List.mem_cons_self
  · rw [List.getElem?_set_ne (Ne.symm e)] at hv
    refine List.mem_cons_of_mem _ (List.mem_filter.mpr ⟨zlv_mem.mpr ⟨v, hv, hj, rfl⟩, ?_⟩)
    have h2 : ¬ (j + 1 = i ∧ v.category = 2) := by
      rintro ⟨e1, e2⟩
      have := hk v (by omega) (by rw [show i - 1 = j by omega]; exact hv)
      omega
    simp only [Bool.and_eq_true, Bool.not_eq_true', beq_eq_false_iff_ne, ne_eq, Bool.and_eq_false_iff, zmv_cat]
    refine ⟨e, ?_⟩
    by_cases e1 : j + 1 = i
    · exact Or.inr fun e2 => h2 ⟨e1, e2⟩
    · exact Or.inl e1
theorem zL_setL {g : zG} {n : Nat} {ls : List Value} {m : Array Slot} {i : Nat} {x : Int64} (h : lv_has m n ((i, .long x) :: (zlv g ls).filter (fun q => !(q.1 == i) && (!(q.1 == i + 1) && !(q.1 + 1 == i && q.2.category == 2))))) (hk : zok ls i) : zL g n ((ls.set i (.long x)).set (i + 1) zJ) m := by
  refine zL_sub h fun j v hv hj => ?_
  by_cases e1 : j = i + 1
  · subst e1
    have hlt := (List.getElem?_eq_some_iff.mp hv).1
    rw [List.getElem?_set_self (by simpa using hlt)] at hv
    cases hv
    cases hj
  rw [List.getElem?_set_ne (Ne.symm e1)] at hv
  by_cases e : j = i
  · subst e
    have hlt := (List.getElem?_eq_some_iff.mp hv).1
    rw [List.getElem?_set_self (by simpa using hlt)] at hv
    cases hv
    exact List.mem_cons_self
  · rw [List.getElem?_set_ne (Ne.symm e)] at hv
    refine List.mem_cons_of_mem _ (List.mem_filter.mpr ⟨zlv_mem.mpr ⟨v, hv, hj, rfl⟩, ?_⟩)
    have h2 : ¬ (j + 1 = i ∧ v.category = 2) := by
      rintro ⟨e1, e2⟩
      have := hk v (by omega) (by rw [show i - 1 = j by omega]; exact hv)
      omega
    simp only [Bool.and_eq_true, Bool.not_eq_true', beq_eq_false_iff_ne, ne_eq, Bool.and_eq_false_iff, zmv_cat]
    refine ⟨e, e1, ?_⟩
    by_cases e3 : j + 1 = i
    · exact Or.inr fun e2 => h2 ⟨e3, e2⟩
    · exact Or.inl e3
theorem zok0 {ls : List Value} : zok ls 0 := fun _ h => absurd h (by decide)
def zokB (ls : List Value) (i : Nat) : Bool := match ls[i - 1]? with
  | some v => v.category == 1
  | none => true
theorem zokd {ls : List Value} {i : Nat} (h : zokB ls i = true) : zok ls i := fun v _ hv => by
  unfold zokB at h
  rw [hv] at h
  simpa using h
/-- the same locals, some forgotten -/
def zwk : List Value → List Value → Prop
  | [], [] => True
  | a :: as, b :: bs => (b = zJ ∨ b = a) ∧ zwk as bs
  | _, _ => False
theorem zwk_at : ∀ {ls ls' : List Value}, zwk ls ls' → ∀ (i : Nat) (v : Value), ls'[i]? = some v → zisJ v = false → ls[i]? = some v
  | [], [], _, i, v, h, _ => by simp at h
  | a :: as, b :: bs, h, i, v, hv, hj => by
    cases i with
    | zero =>
      rw [List.getElem?_cons_zero] at hv ⊢
      cases hv
      rcases h.1 with e | e
      · rw [e] at hj; cases hj
      · rw [e]
    | succ i =>
      rw [List.getElem?_cons_succ] at hv ⊢
      exact zwk_at h.2 i v hv hj
  | [], _ :: _, h, _, _, _, _ => h.elim
  | _ :: _, [], h, _, _, _, _ => h.elim
theorem zL_wk {g : zG} {n : Nat} {ls ls' : List Value} {m : Array Slot} (h : zL g n ls m) (hw : zwk ls ls') : zL g n ls' m :=
  zL_sub h fun i v hv hj => zlv_mem.mpr ⟨v, zwk_at hw i v hv hj, hj, rfl⟩
def zent : List Value → List Value
  | [] => []
  | v :: vs => v :: (if v.category = 2 then zJ :: zent vs else zent vs)
theorem zent_args (g : zG) : ∀ (vs : List Value) (k i : Nat) (v : Value), (zent vs)[i]? = some v → zisJ v = false → (k + i, zmv g v) ∈ lv_args k (vs.map (zmv g))
  | [], k, i, v, h, _ => by simp [zent] at h
  | a :: as, k, i, v, h, hj => by
    rw [zent] at h
    show _ ∈ (k, zmv g a) :: lv_args (if (zmv g a).category = 2 then k + 2 else k + 1) (as.map (zmv g))
    rw [zmv_cat]
    by_cases c : a.category = 2
    · rw [if_pos c] at h ⊢
      cases i with
      | zero => rw [List.getElem?_cons_zero] at h; cases h; exact List.mem_cons_self
      | succ i =>
        rw [List.getElem?_cons_succ] at h
        cases i with
        | zero => rw [List.getElem?_cons_zero] at h; cases h; cases hj
        | succ i =>
          rw [List.getElem?_cons_succ] at h
          have := zent_args g as (k + 2) i v h hj
          rw [show k + 2 + i = k + (i + 1 + 1) by omega] at this
          exact List.mem_cons_of_mem _ this
    · rw [if_neg c] at h ⊢
      cases i with
      | zero => rw [List.getElem?_cons_zero] at h; cases h; exact List.mem_cons_self
      | succ i =>
        rw [List.getElem?_cons_succ] at h
        have := zent_args g as (k + 1) i v h hj
        rw [show k + 1 + i = k + (i + 1) by omega] at this
        exact List.mem_cons_of_mem _ this
/-! ===== the judgement: from this place of a method on, it comes back with what K wants ===== -/
def zRet (M : zM) (pc : Nat) (v : Option Value) : Prop :=
  (v = none ∧ M.2.2.2 = none ∧ decode M.2.1 pc = .ok (.return_, 1)) ∨
  (∃ x ty, v = some (.int x) ∧ M.2.2.2 = some ty ∧ narrow ty (.int x) = .int x ∧ decode M.2.1 pc = .ok (.ireturn, 1)) ∨
  (∃ o C, v = some (.ref o) ∧ M.2.2.2 = some (.object C) ∧ decode M.2.1 pc = .ok (.areturn, 1)) ∨
  (∃ x, v = some (.long x) ∧ M.2.2.2 = some .long ∧ decode M.2.1 pc = .ok (.lreturn, 1))
def zC (l : Launch) (g : zG) (d z0 z1 : Nat) (M : zM) (K : Option Value → zS → Prop) (p : Program) (e : Env) (R : Room) (s : State) (m : MethodId) (args : Array Value) (below : List Frame) (meth : Method) (c : Code) (Q : State → Prop) : Prop :=
  p.tables.exec = Jvm.exec ∧ c.code = M.2.1 ∧ c.maxLocals = M.2.2.1 ∧ (∀ w ∈ lw_g, w.before args s = true) ∧ s.vm.findClass M.1.cls = some m.cls ∧ (M.1.name = "<init>" → meth.name = "<init>") ∧ zK g s ∧ (d ≤ R.frames ∧ 100 * d ≤ R.locals ∧ z1 - z0 ≤ R.cells ∧ zSS z1 - zSS z0 ≤ R.slots) ∧ g.1 ≤ s.heap.size ∧
  (∀ (v : Option Value) (σ : zS) (H : Heap) (locs : List Loc) (pc : Nat) (ls : Array Slot), K v σ → zW g σ H → σ.2.2.2 = z1 → va_S (zA g) s.heap H locs → zRet M pc v →
    W p l e R s m args below meth c H locs (z1 - z0) (zSS z1 - zSS z0) Q (F0 m pc ls (v.map (zmv g)).toList))
def zAt (l : Launch) (g : zG) (d z0 z1 : Nat) (M : zM) (pc : Nat) (ls st : List Value) (σ : zS) (K : Option Value → zS → Prop) : Prop :=
  ∀ (p : Program) (e : Env) (R : Room) (s : State) (m : MethodId) (args : Array Value) (below : List Frame) (meth : Method) (c : Code) (Q : State → Prop), zC l g d z0 z1 M K p e R s m args below meth c Q →
  ∀ (H : Heap) (locs : List Loc) (mls : Array Slot), zW g σ H → z0 ≤ σ.2.2.2 → σ.2.2.2 ≤ z1 → va_S (zA g) s.heap H locs → zL g M.2.2.1 ls mls →
  W p l e R s m args below meth c H locs (σ.2.2.2 - z0) (zSS σ.2.2.2 - zSS z0) Q (F0 m pc mls (st.map (zmv g)))
def zRm (d z0 z1 : Nat) : Room := { frames := d, cells := z1 - z0, slots := zSS z1 - zSS z0, locals := 100 * d }
def zws (M : zM) : List Cond := Cond.code M.1 M.2.1 M.2.2.1 M.2.2.2 :: lw_g
def zPc (g : zG) (z0 : Nat) (args : List Value) (σ : zS) : Array Value → State → Prop := fun a U => a = (args.map (zmv g)).toArray ∧ zW g σ U.heap ∧ σ.2.2.2 = z0 ∧ zK g U
def zQc (g : zG) (z1 : Nat) (K : Option Value → zS → Prop) : Array Value → State → Outcome → State → Prop := fun _ st o t => (∃ v σ, o = .returned (v.map (zmv g)) ∧ K v σ ∧ zW g σ t.heap ∧ σ.2.2.2 = z1) ∧ va_F (zA g) st t
/-- method M, called with args in σ, comes back with what K wants, d frames below it at most -/
def zCall (l : Launch) (g : zG) (d z0 z1 : Nat) (M : zM) (args : List Value) (σ : zS) (K : Option Value → zS → Prop) : Prop :=
  Met l M.1 (zws M) (zRm d z0 z1) (zPc g z0 args σ) (zQc g z1 K) (z1 - z0) (zSS z1 - zSS z0) (zA g)
theorem zSS_mono {a b : Nat} (h : a ≤ b) : zSS a ≤ zSS b := by
  induction b with
  | zero => have : a = 0 := by omega
            subst this; exact Nat.le_refl _
  | succ b ih =>
    by_cases e : a = b + 1
    · subst e; exact Nat.le_refl _
    · exact Nat.le_trans (ih (by omega)) (Nat.le_add_right _ _)
theorem zCall_of {l : Launch} {g : zG} {d z0 z1 n : Nat} {M : zM} {args : List Value} {σ : zS} {K : Option Value → zS → Prop} (hk : zMk M n) (hlen : (lg_sl (args.map (zmv g))).length ≤ M.2.2.1) (hz : z0 ≤ z1)
    (h : σ.2.2.2 = z0 → zAt l g d z0 z1 M 0 (zent args ++ List.replicate (M.2.2.1 - (zent args).length) zJ) [] σ K) : zCall l g d z0 z1 M args σ K := by
  refine va_MetF (cc := M.2.1) (maxL := M.2.2.1) (ret := M.2.2.2) hk.2.2.2.1 rfl ?_
  intro p e s m args' below meth c s₁ B hml hv
  obtain ⟨rfl, hW, hN, hK⟩ := hv
  have hts := atoms_spec (ws := zws M) B.pre
  have hl := lv_entry (args.map (zmv g)) (n := M.2.2.1) hlen
  rw [lg_entry_eq]
  have hL : zL g M.2.2.1 (zent args ++ List.replicate (M.2.2.1 - (zent args).length) zJ) _ := zL_sub hl (fun i v hv hj => by
    by_cases hi : i < (zent args).length
    · rw [List.getElem?_append_left hi] at hv
      have := zent_args g args 0 i v hv hj
      rwa [Nat.zero_add] at this
    · rw [List.getElem?_append_right (by omega)] at hv
      have := List.mem_of_getElem? hv
      rw [List.mem_replicate] at this
      rw [this.2] at hj
      cases hj)
  have hgs : g.1 ≤ s.heap.size := by rw [hW.1]; omega
  have := h hN p e (zRm d z0 z1) s m (args.map (zmv g)).toArray below meth c (MQ below (zQc g z1 K) (args.map (zmv g)).toArray s (z1 - z0) (zSS z1 - zSS z0) (zA g)) ⟨B.exec, B.bytes, hml, fun w hw => hts w (List.mem_cons_of_mem _ hw), findClass_of_methodNamed B.named, fun h9 => (name_of_methodNamed B.named B.method).1.trans h9, hK, ⟨Nat.le_refl _, Nat.le_refl _, Nat.le_refl _, Nat.le_refl _⟩, hgs, ?_⟩ s.heap [] _ hW (by rw [hN]; exact Nat.le_refl _) (by rw [hN]; exact hz) va_S.rf hL
  · rw [hN, Nat.sub_self, Nat.sub_self] at this
    exact this
  · intro v σ' H locs pc ls hKv hW' hN' hS hr
    have hpost : ∀ t : State, t.heap = H → s.WarmedH t.vm → zQc g z1 K (args.map (zmv g)).toArray s (.returned (v.map (zmv g))) t := fun t ht _ => ⟨⟨v, σ', rfl, hKv, by rw [ht]; exact hW', hN'⟩, hS.F ht⟩
    rcases hr with ⟨rfl, h2, h3⟩ | ⟨x, ty, rfl, h2, h3, h4⟩ | ⟨o, C, rfl, h2, h3⟩ | ⟨x, rfl, h2, h3⟩
    · exact W.vret B.exec B.bytes (B.returns.trans h2) hpost hS.2.2 h3
    · exact W.zret B.exec B.bytes (B.returns.trans h2) h3 hpost hS.2.2 h4
    · exact W.aret B.exec B.bytes (B.returns.trans h2) (Or.inl ⟨C, rfl⟩) (Or.inr ⟨_, rfl⟩) hpost hS.2.2 h3
    · exact W.lret B.exec B.bytes (B.returns.trans h2) hpost hS.2.2 h3
theorem z_ret {l : Launch} {g : zG} {d z0 z1 : Nat} {M : zM} {pc : Nat} {ls : List Value} {σ : zS} {K : Option Value → zS → Prop} (v : Option Value) (hr : zRet M pc v) (hN : z0 ≤ σ.2.2.2 → σ.2.2.2 ≤ z1 → σ.2.2.2 = z1) (hK : K v σ) : zAt l g d z0 z1 M pc ls v.toList σ K := by
  intro p e R s m args below meth c Q C H locs mls h1 h2 h3 h4 h5
  have e1 := hN h2 h3
  have := C.2.2.2.2.2.2.2.2.2 v σ H locs pc mls hK h1 e1 h4 hr
  rw [e1]
  cases v with
  | none => exact this
  | some v => exact this
theorem z_wk {l : Launch} {g : zG} {d z0 z1 : Nat} {M : zM} {pc : Nat} {ls ls' st : List Value} {σ : zS} {K : Option Value → zS → Prop} (hw : zwk ls ls') (k : zAt l g d z0 z1 M pc ls' st σ K) : zAt l g d z0 z1 M pc ls st σ K :=
  fun p e R s m args below meth c Q C H locs mls h1 h2 h3 h4 h5 => k p e R s m args below meth c Q C H locs mls h1 h2 h3 h4 (zL_wk h5 hw)
/-- what is wanted less is had as well -/
theorem zC_mono {l : Launch} {g : zG} {d z0 z1 : Nat} {M : zM} {K K' : Option Value → zS → Prop} (hm : ∀ v σ, K' v σ → K v σ) {p : Program} {e : Env} {R : Room} {s : State} {m : MethodId} {args : Array Value} {below : List Frame} {meth : Method} {c : Code} {Q : State → Prop} (h : zC l g d z0 z1 M K p e R s m args below meth c Q) : zC l g d z0 z1 M K' p e R s m args below meth c Q :=
  ⟨h.1, h.2.1, h.2.2.1, h.2.2.2.1, h.2.2.2.2.1, h.2.2.2.2.2.1, h.2.2.2.2.2.2.1, h.2.2.2.2.2.2.2.1, h.2.2.2.2.2.2.2.2.1, fun v σ H locs pc ls hk => h.2.2.2.2.2.2.2.2.2 v σ H locs pc ls (hm v σ hk)⟩
theorem zAt_mono {l : Launch} {g : zG} {d z0 z1 : Nat} {M : zM} {pc : Nat} {ls st : List Value} {σ : zS} {K K' : Option Value → zS → Prop} (k : zAt l g d z0 z1 M pc ls st σ K) (hm : ∀ v σ, K v σ → K' v σ) : zAt l g d z0 z1 M pc ls st σ K' :=
  fun p e R s m args below meth c Q C => k p e R s m args below meth c Q (zC_mono hm C)
