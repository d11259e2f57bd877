/-! ===== arrays of arrays ===== -/
theorem vr_outer (c : ClassId) (N h0 : Nat) : ∀ i : Nat, Jvm.Free.Multi.outerC c N h0 i = arrV c N (fun j => va_rf (if j < i then some (h0 + 1 + j) else none))
  | 0 => by
    show ({ cls := c, slots := Array.replicate N .null, vm := .none } : Cell) = _
    rw [arrV_new]
    refine congrArg (arrV c N) (funext fun j => ?_)
    simp [va_rf]
  | i + 1 => by
    show (Jvm.Free.Multi.outerC c N h0 i).setSlot i (.ref (h0 + 1 + i)) = _
    rw [vr_outer c N h0 i, arrV_store]
    refine congrArg (arrV c N) (funext fun j => ?_)
    by_cases e : j = i
    · subst e
      simp [updV, va_rf]
    · by_cases h : j < i
      · simp [updV, e, h, Nat.lt_succ_of_lt h]
      · simp [updV, e, h, show ¬ j < i + 1 by omega]
section ZMM
variable {l : Launch} {g : zG} {d z0 z1 : Nat} {M : zM} {pc pn : Nat} {ls st : List Value} {σ : zS} {K : Option Value → zS → Prop}
def zMul (σ : zS) (q a n : Nat) : zS := (σ.1, σ.2.1, fun p k => if p = q ∧ k < a then q + 1 + k else σ.2.2.1 p k, n + 1 + a)
theorem zcell_M {q a n o : Nat} (h : o ≠ q) : zcell g (zMul σ q a n) o = zcell g σ o := by
  have e : (zMul σ q a n).2.2.1 o = σ.2.2.1 o := by funext j; simp [zMul, h]
  have e2 : ∀ t k2, zfv g (zMul σ q a n) o t k2 = zfv g σ o t k2 := by intro t k2; unfold zfv; rw [e]; rfl
  unfold zcell zfl
  simp only [e2]
  rw [e]
  rfl
theorem zSS_rows {n q a b : Nat} (hq : 64 + n = q) (hkq : zk q = 25) (hlen : zn q = a) (hrow : ∀ i, i < a → zk (q + 1 + i) = 20 ∧ zn (q + 1 + i) = b) : ∀ i, i ≤ a → zSS (n + 1 + i) = zSS n + a + i * b
  | 0, _ => by
    show zSS n + zsl (64 + n) = _
    rw [hq]
    unfold zsl
    rw [hkq, if_neg (by omega), hlen]
    omega
  | i + 1, h => by
    show zSS (n + 1 + i) + zsl (64 + (n + 1 + i)) = _
    rw [zSS_rows hq hkq hlen hrow i (by omega), show 64 + (n + 1 + i) = q + 1 + i by omega]
    unfold zsl
    rw [(hrow i (by omega)).1, if_neg (by omega), (hrow i (by omega)).2, Nat.succ_mul]
    omega
theorem z_mna {idx n q a b : Nat} {x y : Int32} (hl : Cond.classLink M.1.cls idx ("[" ++ (FieldType.array .int).toString) ∈ lw_g) (harr : Cond.arrayClass .int ∈ lw_g) (hx0 : ¬ x < 0) (hx : x.toNatClampNeg = a) (hy0 : ¬ y < 0) (hy : y.toNatClampNeg = b) (hb1 : a * 4 ≤ 536870912) (hb2 : b * 4 ≤ 536870912) (hkq : zk q = 25) (hlen : zn q = a) (hrow : ∀ i, i < a → zk (q + 1 + i) = 20 ∧ zn (q + 1 + i) = b) (hN : σ.2.2.2 = n) (hq : 64 + n = q) (hcl : zcln σ) (hz1 : n + a < z1) (hd : decode M.2.1 pc = .ok (.multianewarray idx 2, 4)) (hn : pc + 4 = pn)
    (k : zAt l g d z0 z1 M pn ls (.ref q :: st) (zMul σ q a n) K) : zAt l g d z0 z1 M pc ls (.int y :: .int x :: st) σ K := by
  subst hn
  intro p e R s m args below meth c9 Q C H locs mls h1 h2 h3 h4 h5 T hT Xs
  have hts := C.2.2.2.1
  have hK := C.2.2.2.2.2.2.1
  have hH : H.size = g.1 + n := by rw [h1.1, hN]
  have hrows := zSS_rows hq hkq hlen hrow a (Nat.le_refl _)
  have a2 : zSS z0 ≤ zSS n := zSS_mono (by omega)
  have a3 : zSS (n + 1 + a) ≤ zSS z1 := zSS_mono (by omega)
  have r3 := C.2.2.2.2.2.2.2.1.2.2.1
  have r4 := C.2.2.2.2.2.2.2.1.2.2.2
  rw [hN] at Xs
  obtain ⟨vm₁, cA, comp, hW9, fA, fC, hO, hI, X', step⟩ := Xs.multianewarray2F C.1 C.2.2.2.2.1 (hts _ hl) (hK.2.2.2.2.2.2.2.2.2.2.2) (hts _ harr) (ty := .int) (g := F0 m pc mls (.int y :: .int x :: st.map (zmv g))) rfl (by rw [C.2.1]; exact hd) rfl hx0 hy0 (by rw [hx]; exact hb1) (by rw [hy]; exact hb2) (by rw [hy]; omega) rfl rfl (by rw [hx]; omega) (by rw [hx, hy]; omega)
  rw [hx, hy] at X' step
  have hc25 : cA = g.2.2.1 25 := by
    have : s.vm.findClass ("[" ++ (FieldType.array .int).toString) = some (g.2.2.1 25) := (hK.1.2 5 _ rfl).2
    exact Option.some.inj (fA.symm.trans this)
  have hc20 : comp = g.2.2.1 20 := by
    have : s.vm.findClass ("[" ++ (FieldType.int).toString) = some (g.2.2.1 20) := (hK.1.2 0 _ rfl).2
    have e9 : (FieldType.array .int).toString = "[" ++ (FieldType.int).toString := rfl
    rw [e9] at fC
    exact Option.some.inj (fC.symm.trans this)
  subst hc25
  subst hc20
  generalize hF : Jvm.Free.Multi.fill (T.setVm vm₁) (g.2.2.1 25) (g.2.2.1 20) a b (defaultValue .int) a = F at X' step
  have hTh : (T.setVm vm₁).heap = H := hT
  obtain ⟨f1, f2, -, -⟩ := Jvm.Free.Multi.fill_facts (T.setVm vm₁) (g.2.2.1 25) (g.2.2.1 20) a b (defaultValue .int) a
  rw [hF, hTh] at f1 f2
  have hold : ∀ x : Nat, x < H.size → F.heap[x]? = H[x]? := fun x hx => by
    have := Jvm.Free.Multi.fill_old (T.setVm vm₁) (g.2.2.1 25) (g.2.2.1 20) a b (defaultValue .int) (a := x) (by rw [hTh]; exact hx) a
    rw [hF, hTh] at this
    exact this
  have hin : ∀ j : Nat, j < a → F.heap[H.size + 1 + j]? = some (Jvm.Free.Multi.innerC (g.2.2.1 20) b (defaultValue .int)) := fun j hj => by
    have := Jvm.Free.Multi.fill_inner (T.setVm vm₁) (g.2.2.1 25) (g.2.2.1 20) a b (defaultValue .int) a j hj
    rw [hF, hTh] at this
    exact this
  have hW : zW g (zMul σ q a n) F.heap := by
    refine ⟨by rw [f1, hH]; show _ = g.1 + (n + 1 + a); omega, fun o o1 o2 => ?_⟩
    have o2 : o < 64 + (n + 1 + a) := o2
    by_cases c1 : o < q
    · rw [zcell_M (by omega)]
      exact (h1.2 o o1 (by omega)).kept (hold _ (h1.2 o o1 (by omega)).lt)
    by_cases c2 : o = q
    · subst c2
      have hz : zAr (zMul σ o a n) 0 25 a o := ⟨hkq, hlen, o1, fun _ => o2⟩
      rw [zcell_r hz (by decide), zad_n hq, ← hH]
      show F.heap[H.size]? = some (vp_cell _ _)
      rw [f2, vr_outer, vp_cell_q]
      congr 2
      funext j
      congr 1
      show (if j < a then some (H.size + 1 + j) else none) = zro g (if o = o ∧ j < a then o + 1 + j else σ.2.2.1 o j)
      by_cases c3 : j < a
      · rw [if_pos c3, if_pos ⟨rfl, c3⟩]
        unfold zro zad
        rw [if_neg (by omega), if_neg (by omega)]
        congr 1
        omega
      · rw [if_neg c3, if_neg (fun q => c3 q.2), (hcl o j (by omega)).2.2]
        rfl
    · obtain ⟨i, rfl⟩ : ∃ i, o = q + 1 + i := ⟨o - q - 1, by omega⟩
      have hi : i < a := by omega
      have hz : zAr (zMul σ q a n) 0 20 b (q + 1 + i) := ⟨(hrow i hi).1, (hrow i hi).2, o1, fun _ => o2⟩
      rw [zcell_i hz (by decide) (by decide), zad_n (n := n + 1 + i) (by omega)]
      show F.heap[g.1 + (n + 1 + i)]? = some (vp_cell _ _)
      rw [show g.1 + (n + 1 + i) = H.size + 1 + i by omega, hin i hi, vp_cell_i]
      unfold Jvm.Free.Multi.innerC
      rw [arrV_new]
      congr 2
      funext j
      show Value.int 0 = Value.int (σ.1 (q + 1 + i) j)
      rw [(hcl (q + 1 + i) j (by omega)).1]
  have e1 : n - z0 + 1 + a = (zMul σ q a n).2.2.2 - z0 := by show _ = n + 1 + a - z0; omega
  have e2 : zSS n - zSS z0 + a + a * b = zSS (zMul σ q a n).2.2.2 - zSS z0 := by show _ = zSS (n + 1 + a) - zSS z0; omega
  rw [e1, e2] at X'
  obtain ⟨t, b1, b2⟩ := k p e R s m args below meth c9 Q C F.heap locs mls hW (by show z0 ≤ n + 1 + a; omega) (by show n + 1 + a ≤ z1; omega) ⟨by rw [f1]; have := h4.1; omega, fun x x1 x2 => (hold x (Nat.lt_of_lt_of_le x1 h4.1)).trans (h4.2.1 x x1 x2), h4.2.2⟩ h5 F rfl X'
  refine ⟨t, step t ?_, b2⟩
  have e6 : zmv g (.ref q) = .ref T.heap.size := by show Value.ref _ = _; rw [zad_n hq, hT, hH]
  rw [List.map_cons, e6] at b1
  exact b1
end ZMM
