/-- the law's run, out of the judgement on its code -/
theorem whole_of (hlaw : ∀ (l : Launch) (g : zG), g.2.2.2.2.1 ≤ 3072 → zAt l g 400 0 200 M_L_law 0 [.ref 1, zJ, zJ, zJ] [] zS0 (zKz (fun b _ => b = true)))
    {p : Program} {e : Env} {s : State} {m : MethodId} {below : List Frame} {meth : Method} {c : Code} (l : Launch) {b L : Nat} {xs : Nat → Int32} (hL : L ≤ 3072) (C0 : lw_At p s m meth c b L xs) : W p l e room_1 s m #[Value.ref b] below meth c s.heap [] 0 0 (lw_Z below #[Value.ref b] s) (entryFrame m ([Value.ref b] : List Value).toArray 4) := by
  obtain ⟨hx, hc, hret, hml, hown, hts, hX, hbl, hlocks, hgv⟩ := C0
  have hfl := flat_of_before _ hgv
  have h0 : ∀ c : Nat, ∃ q : ClassId × (Nat → Nat), c < 9 → u_Kn s (zRn c) (zT c) (zN c) q.1 q.2 := fun c => by
    by_cases h : c < 9
    · obtain ⟨cC, iS, hK⟩ := u_known (ws := lw_tbl) hts (fun w hw => lw_g_in w ((zCl_all c h).2.1 w hw)) (hts _ (st_in c h))
      exact ⟨(cC, iS), fun _ => hK⟩
    · exact ⟨(0, fun _ => 0), fun q => absurd q h⟩
  obtain ⟨kd, hkd⟩ := Classical.axiomOfChoice h0
  obtain ⟨c20, a20⟩ := st_prim (hts _ st_a1) (fun _ h => h)
  obtain ⟨c21, a21⟩ := st_prim (hts _ st_a2) (fun _ h => h)
  obtain ⟨c22, a22⟩ := st_prim (hts _ st_a3) (fun _ h => h)
  obtain ⟨c23, a23⟩ := st_obj (hts _ st_o1)
  obtain ⟨c24, a24⟩ := st_obj (hts _ st_o2)
  obtain ⟨c25, a25⟩ := st_arr (hts _ st_o3)
  obtain ⟨c26, a26⟩ := st_obj (hts _ st_o4)
  have hA : ∀ a : Nat, a < s.heap.size → ¬ s.heap.size ≤ a := fun a h => by omega
  obtain ⟨adK, adV, hvk, hev⟩ := vk_Sof (args := #[Value.ref b]) (s := s) (N := 20) (tm := zTm) (len := zSl) (byt := zSb) (A := fun q => s.heap.size ≤ q) (fun i hi => (zSl_lt i hi).1) (fun i hi => hfl _ (st_ex i hi)) (fun i hi => hfl _ (st_co i hi)) (fun i hi => hfl _ (st_ar i hi)) (fun i hi => hfl _ (st_le i hi)) (fun i hi j hj => hfl _ (st_el i hi j hj)) (fun i j hi hj hij => (st_ne i hi j hj hij).imp (hfl _) (hfl _)) hA
  have hcs := va_Zof (A := fun q => s.heap.size ≤ q) (hts _ st_w1) (hts _ st_w2) (va_eqt (hfl _ st_cs)) hA
  have hsi := va_Zqof (A := fun q => s.heap.size ≤ q) (hts _ st_w3) (hts _ st_w4) (hfl _ st_si) hA
  obtain ⟨sf, hsf⟩ : ∃ t : Nat, va_Z "jdk/internal/util/Preconditions" "SIOOBE_FORMATTER" "Ljava/util/function/BiFunction;" .null (fun q => s.heap.size ≤ q) s s.heap ∨ va_Z "jdk/internal/util/Preconditions" "SIOOBE_FORMATTER" "Ljava/util/function/BiFunction;" (.ref t) (fun q => s.heap.size ≤ q) s s.heap := by
    rcases hsi with h | ⟨t, h⟩
    · exact ⟨0, Or.inl h⟩
    · exact ⟨t, Or.inr h⟩
  let low : Nat → Nat := fun o => if o = 1 then b else if o = 63 then sf else if o < 22 then adK (o - 2) else adV (o - 22)
  let g : zG := (s.heap.size, (fun c => (kd c).1, fun c => (kd c).2), (fun k => if k = 20 then c20 else if k = 21 then c21 else if k = 22 then c22 else if k = 23 then c23 else if k = 24 then c24 else if k = 25 then c25 else c26), low, L, xs)
  have e2 : ∀ i, i < 20 → low (2 + i) = adK i := fun i hi => by
    show (if 2 + i = 1 then b else if 2 + i = 63 then sf else if 2 + i < 22 then adK (2 + i - 2) else adV (2 + i - 22)) = adK i
    rw [if_neg (by omega), if_neg (by omega), if_pos (by omega), show 2 + i - 2 = i by omega]
  have e22 : ∀ i, i < 20 → low (22 + i) = adV i := fun i hi => by
    show (if 22 + i = 1 then b else if 22 + i = 63 then sf else if 22 + i < 22 then adK (22 + i - 2) else adV (22 + i - 22)) = adV i
    rw [if_neg (by omega), if_neg (by omega), if_neg (by omega), show 22 + i - 22 = i by omega]
  have hK : zK g s := by
    refine ⟨⟨fun c q hq => ?_, fun k q hq => ?_⟩, fun w hw => ?_, ⟨fun i hi => ?_, fun i j hi hj h => ?_⟩, fun i hi => ?_, hcs, hsf, ⟨hX, fun h => absurd h (hA b hbl), va_AO.of (hts _ st_o1), va_AO.of (hts _ st_o2), va_AO.of (hts _ st_o4), (show (Cond.arrayOver (.array .int)).before #[Value.ref b] s = true from hts _ st_o3)⟩⟩
    · have hc9 : c < 9 := (List.getElem?_eq_some_iff.mp hq).1
      have := (zCl_all c hc9).1
      rw [hq] at this
      cases this
      exact hkd c hc9
    · have hk : k < 7 := (List.getElem?_eq_some_iff.mp hq).1
      rcases (show k = 0 ∨ k = 1 ∨ k = 2 ∨ k = 3 ∨ k = 4 ∨ k = 5 ∨ k = 6 by omega) with rfl | rfl | rfl | rfl | rfl | rfl | rfl
      · cases hq; exact a20
      · cases hq; exact a21
      · cases hq; exact a22
      · cases hq; exact a23
      · cases hq; exact a24
      · cases hq; exact a25
      · cases hq; exact a26
    · have hn : zNest w = true := (List.mem_filter.mp hw).2
      have hb := hts w (lw_n_in w hw)
      cases w with
      | fieldLinkNest a b c d e f => exact va_Nw.of rfl hb
      | methodLinkNest a b c d => exact va_Nw.of rfl hb
      | _ => simp [zNest] at hn
    · have := hvk.1 i hi
      show va_O "java/lang/String" (low (2 + i)) _ s s.heap ∧ va_OF "java/lang/String" "coder" "B" (.int 0) (low (2 + i)) _ s s.heap ∧ va_OF "java/lang/String" "value" "[B" (.ref (low (22 + i))) (low (2 + i)) _ s s.heap ∧ va_T .byte (low (22 + i)) (zSl.getD i 0) (fun j => .int ((zSb.getD i []).getD j 0)) _ s s.heap
      rw [e2 i hi, e22 i hi]
      exact this
    · have h : low (2 + i) = low (2 + j) := h
      rw [e2 i hi, e2 j hj] at h
      exact hvk.2 i j hi hj h
    · show vk_R (zSo i).1 (zSo i).2.1 (zSo i).2.2 (low (2 + i)) s
      rw [e2 i hi]
      exact vk_R.of (A := #[Value.ref b]) (hts _ (st_rf i hi)) (hev i hi)
  have hW0 : zW g zS0 s.heap := ⟨rfl, fun o h1 h2 => by have h2 : o < 64 + 0 := h2; omega⟩
  have hl := lv_entry ([.ref b]) (n := 4) (Nat.le_of_ble_eq_true rfl)
  rw [lg_entry_eq]
  have hL9 : zL g 4 [.ref 1, zJ, zJ, zJ] _ := zL_sub hl (fun i v hv hj => by
    rcases (show i = 0 ∨ i = 1 ∨ i = 2 ∨ i = 3 ∨ 4 ≤ i by omega) with rfl | rfl | rfl | rfl | h
    · cases hv
      exact List.mem_cons_self
    · cases hv; cases hj
    · cases hv; cases hj
    · cases hv; cases hj
    · rw [List.getElem?_eq_none (by simpa using h)] at hv
      cases hv)
  have hz : zC l g 400 0 200 M_L_law (zKz (fun b _ => b = true)) p e room_1 s m #[Value.ref b] below meth c (lw_Z below #[Value.ref b] s) := by
    refine ⟨hx, hc, hml, fun w hw => hts w (lw_g_in w hw), hown, fun h => absurd h (by decide), hK, ⟨Nat.le_of_ble_eq_true rfl, Nat.le_of_ble_eq_true rfl, Nat.le_of_ble_eq_true rfl, st_room2⟩, Nat.le_refl _, ?_⟩
    rintro v σ H locs pc ls ⟨bb, rfl, rfl⟩ hW hN hS hr
    have hd : decode code pc = .ok (.ireturn, 1) := by
      rcases hr with ⟨h, -⟩ | ⟨x, ty, h1, h2, h3, h4⟩ | ⟨o, C, h, -⟩ | ⟨x, h, -⟩
      · cases h
      · exact h4
      · cases h
      · cases h
    refine W.widen (k := 600000) (n := 7302250) (Nat.le_of_ble_eq_true rfl) st_room2 ?_
    refine va_forget (fun q hq => hS.2.2 q hq) ?_
    exact lw_ret hx hc hret hlocks hd
  have := hlaw l g hL p e room_1 s m #[Value.ref b] below meth c (lw_Z below #[Value.ref b] s) hz s.heap [] _ hW0 (Nat.le_refl _) (by decide) va_S.rf hL9
  exact this

