/-! ===== the JDK methods that are reached, and in(..) of the reference ===== -/
theorem l_J0_38 : Cond.fieldLink RJ0 38 "java/lang/String" "COMPACT_STRINGS" "Z" ∈ lw_g := zin 738 (by decide +kernel) (by decide +kernel)
theorem l_J0_9 : Cond.fieldLink RJ0 9 "java/lang/String" "value" "[B" ∈ lw_g := zin 1488 (by decide +kernel) (by decide +kernel)
theorem l_J0_15 : Cond.fieldLink RJ0 15 "java/lang/String" "coder" "B" ∈ lw_g := zin 1489 (by decide +kernel) (by decide +kernel)
theorem l_J0_1053 : Cond.fieldLink RJ0 1053 "jdk/internal/util/Preconditions" "SIOOBE_FORMATTER" "Ljava/util/function/BiFunction;" ∈ lw_g := zin 754 (by decide +kernel) (by decide +kernel)
theorem dJ9_max_7cf53_0 : decode cJ9_max_7cf53 0 = .ok (.iload_n 0, 1) := by decide +kernel
theorem dJ9_max_7cf53_1 : decode cJ9_max_7cf53 1 = .ok (.iload_n 1, 1) := by decide +kernel
theorem dJ9_max_7cf53_2 : decode cJ9_max_7cf53 2 = .ok (.if_icmp .lt 7, 3) := by decide +kernel
theorem dJ9_max_7cf53_5 : decode cJ9_max_7cf53 5 = .ok (.iload_n 0, 1) := by decide +kernel
theorem dJ9_max_7cf53_6 : decode cJ9_max_7cf53 6 = .ok (.goto 4, 3) := by decide +kernel
theorem dJ9_max_7cf53_9 : decode cJ9_max_7cf53 9 = .ok (.iload_n 1, 1) := by decide +kernel
theorem dJ9_max_7cf53_10 : decode cJ9_max_7cf53 10 = .ok (.ireturn, 1) := by decide +kernel
set_option maxHeartbeats 4000000 in
set_option maxRecDepth 100000 in
theorem t_J9_max_7cf53 {l : Launch} {g : zG} {d : Nat} {s : zS} {p0 : Int32} {p1 : Int32} {K : Int32 → zS → Prop} (h : (if p0 < p1 then K p1 s else K p0 s)) : zc l g d M_J9_max_7cf53 [.int p0, .int p1] s (zKi K) := by
  refine zCall_of k_J9_max_7cf53 (Nat.le_of_ble_eq_true rfl) (Nat.le_refl _) (fun _ => ?_)
  show zt l g d M_J9_max_7cf53 0 [.int p0, .int p1] [] s (zKi K)
  refine z_iload_n (i := 0) dJ9_max_7cf53_0 rfl rfl rfl ?_
  refine z_iload_n (i := 1) dJ9_max_7cf53_1 rfl rfl rfl ?_
  refine z_icmp_lt (pt := 9) dJ9_max_7cf53_2 (by decide) rfl (fun c => ?_) (fun c => ?_)
  · have h := zit h c
    refine z_iload_n (i := 1) dJ9_max_7cf53_9 rfl rfl rfl ?_
    exact z_ret (some (.int p1)) (Or.inr (Or.inl ⟨_, _, rfl, rfl, rfl, dJ9_max_7cf53_10⟩)) zN200 ⟨_, rfl, h⟩
  · have h := zif h c
    refine z_iload_n (i := 0) dJ9_max_7cf53_5 rfl rfl rfl ?_
    refine z_goto (pn := 10) dJ9_max_7cf53_6 (by decide) ?_
    exact z_ret (some (.int p0)) (Or.inr (Or.inl ⟨_, _, rfl, rfl, rfl, dJ9_max_7cf53_10⟩)) zN200 ⟨_, rfl, h⟩
theorem dJ9_min_7cf53_0 : decode cJ9_min_7cf53 0 = .ok (.iload_n 0, 1) := by decide +kernel
theorem dJ9_min_7cf53_1 : decode cJ9_min_7cf53 1 = .ok (.iload_n 1, 1) := by decide +kernel
theorem dJ9_min_7cf53_2 : decode cJ9_min_7cf53 2 = .ok (.if_icmp .gt 7, 3) := by decide +kernel
theorem dJ9_min_7cf53_5 : decode cJ9_min_7cf53 5 = .ok (.iload_n 0, 1) := by decide +kernel
theorem dJ9_min_7cf53_6 : decode cJ9_min_7cf53 6 = .ok (.goto 4, 3) := by decide +kernel
theorem dJ9_min_7cf53_9 : decode cJ9_min_7cf53 9 = .ok (.iload_n 1, 1) := by decide +kernel
theorem dJ9_min_7cf53_10 : decode cJ9_min_7cf53 10 = .ok (.ireturn, 1) := by decide +kernel
set_option maxHeartbeats 4000000 in
set_option maxRecDepth 100000 in
theorem t_J9_min_7cf53 {l : Launch} {g : zG} {d : Nat} {s : zS} {p0 : Int32} {p1 : Int32} {K : Int32 → zS → Prop} (h : (if p1 < p0 then K p1 s else K p0 s)) : zc l g d M_J9_min_7cf53 [.int p0, .int p1] s (zKi K) := by
  refine zCall_of k_J9_min_7cf53 (Nat.le_of_ble_eq_true rfl) (Nat.le_refl _) (fun _ => ?_)
  show zt l g d M_J9_min_7cf53 0 [.int p0, .int p1] [] s (zKi K)
  refine z_iload_n (i := 0) dJ9_min_7cf53_0 rfl rfl rfl ?_
  refine z_iload_n (i := 1) dJ9_min_7cf53_1 rfl rfl rfl ?_
  refine z_icmp_gt (pt := 9) dJ9_min_7cf53_2 (by decide) rfl (fun c => ?_) (fun c => ?_)
  · have h := zit h c
    refine z_iload_n (i := 1) dJ9_min_7cf53_9 rfl rfl rfl ?_
    exact z_ret (some (.int p1)) (Or.inr (Or.inl ⟨_, _, rfl, rfl, rfl, dJ9_min_7cf53_10⟩)) zN200 ⟨_, rfl, h⟩
  · have h := zif h c
    refine z_iload_n (i := 0) dJ9_min_7cf53_5 rfl rfl rfl ?_
    refine z_goto (pn := 10) dJ9_min_7cf53_6 (by decide) ?_
    exact z_ret (some (.int p0)) (Or.inr (Or.inl ⟨_, _, rfl, rfl, rfl, dJ9_min_7cf53_10⟩)) zN200 ⟨_, rfl, h⟩
theorem dJ9_abs_0f7a4_0 : decode cJ9_abs_0f7a4 0 = .ok (.iload_n 0, 1) := by decide +kernel
theorem dJ9_abs_0f7a4_1 : decode cJ9_abs_0f7a4 1 = .ok (.ifCond .ge 8, 3) := by decide +kernel
theorem dJ9_abs_0f7a4_4 : decode cJ9_abs_0f7a4 4 = .ok (.iload_n 0, 1) := by decide +kernel
theorem dJ9_abs_0f7a4_5 : decode cJ9_abs_0f7a4 5 = .ok (.ineg, 1) := by decide +kernel
theorem dJ9_abs_0f7a4_6 : decode cJ9_abs_0f7a4 6 = .ok (.goto 4, 3) := by decide +kernel
theorem dJ9_abs_0f7a4_9 : decode cJ9_abs_0f7a4 9 = .ok (.iload_n 0, 1) := by decide +kernel
theorem dJ9_abs_0f7a4_10 : decode cJ9_abs_0f7a4 10 = .ok (.ireturn, 1) := by decide +kernel
set_option maxHeartbeats 4000000 in
set_option maxRecDepth 100000 in
theorem t_J9_abs_0f7a4 {l : Launch} {g : zG} {d : Nat} {s : zS} {p0 : Int32} {K : Int32 → zS → Prop} (h : (if 0 ≤ p0 then K p0 s else K (-p0) s)) : zc l g d M_J9_abs_0f7a4 [.int p0] s (zKi K) := by
  refine zCall_of k_J9_abs_0f7a4 (Nat.le_of_ble_eq_true rfl) (Nat.le_refl _) (fun _ => ?_)
  show zt l g d M_J9_abs_0f7a4 0 [.int p0] [] s (zKi K)
  refine z_iload_n (i := 0) dJ9_abs_0f7a4_0 rfl rfl rfl ?_
  refine z_if_ge (pt := 9) dJ9_abs_0f7a4_1 (by decide) rfl (fun c => ?_) (fun c => ?_)
  · have h := zit h c
    refine z_iload_n (i := 0) dJ9_abs_0f7a4_9 rfl rfl rfl ?_
    exact z_ret (some (.int p0)) (Or.inr (Or.inl ⟨_, _, rfl, rfl, rfl, dJ9_abs_0f7a4_10⟩)) zN200 ⟨_, rfl, h⟩
  · have h := zif h c
    refine z_iload_n (i := 0) dJ9_abs_0f7a4_4 rfl rfl rfl ?_
    refine z_ineg dJ9_abs_0f7a4_5 rfl ?_
    refine z_goto (pn := 10) dJ9_abs_0f7a4_6 (by decide) ?_
    exact z_ret (some (.int (-p0))) (Or.inr (Or.inl ⟨_, _, rfl, rfl, rfl, dJ9_abs_0f7a4_10⟩)) zN200 ⟨_, rfl, h⟩
theorem dJ9_floorDiv_7cf53_0 : decode cJ9_floorDiv_7cf53 0 = .ok (.iload_n 0, 1) := by decide +kernel
theorem dJ9_floorDiv_7cf53_1 : decode cJ9_floorDiv_7cf53 1 = .ok (.iload_n 1, 1) := by decide +kernel
theorem dJ9_floorDiv_7cf53_2 : decode cJ9_floorDiv_7cf53 2 = .ok (.idiv, 1) := by decide +kernel
theorem dJ9_floorDiv_7cf53_3 : decode cJ9_floorDiv_7cf53 3 = .ok (.istore_n 2, 1) := by decide +kernel
theorem dJ9_floorDiv_7cf53_4 : decode cJ9_floorDiv_7cf53 4 = .ok (.iload_n 0, 1) := by decide +kernel
theorem dJ9_floorDiv_7cf53_5 : decode cJ9_floorDiv_7cf53 5 = .ok (.iload_n 1, 1) := by decide +kernel
theorem dJ9_floorDiv_7cf53_6 : decode cJ9_floorDiv_7cf53 6 = .ok (.ixor, 1) := by decide +kernel
theorem dJ9_floorDiv_7cf53_7 : decode cJ9_floorDiv_7cf53 7 = .ok (.ifCond .ge 14, 3) := by decide +kernel
theorem dJ9_floorDiv_7cf53_10 : decode cJ9_floorDiv_7cf53 10 = .ok (.iload_n 2, 1) := by decide +kernel
theorem dJ9_floorDiv_7cf53_11 : decode cJ9_floorDiv_7cf53 11 = .ok (.iload_n 1, 1) := by decide +kernel
theorem dJ9_floorDiv_7cf53_12 : decode cJ9_floorDiv_7cf53 12 = .ok (.imul, 1) := by decide +kernel
theorem dJ9_floorDiv_7cf53_13 : decode cJ9_floorDiv_7cf53 13 = .ok (.iload_n 0, 1) := by decide +kernel
theorem dJ9_floorDiv_7cf53_14 : decode cJ9_floorDiv_7cf53 14 = .ok (.if_icmp .eq 7, 3) := by decide +kernel
theorem dJ9_floorDiv_7cf53_17 : decode cJ9_floorDiv_7cf53 17 = .ok (.iload_n 2, 1) := by decide +kernel
theorem dJ9_floorDiv_7cf53_18 : decode cJ9_floorDiv_7cf53 18 = .ok (.iconst 1, 1) := by decide +kernel
theorem dJ9_floorDiv_7cf53_19 : decode cJ9_floorDiv_7cf53 19 = .ok (.isub, 1) := by decide +kernel
theorem dJ9_floorDiv_7cf53_20 : decode cJ9_floorDiv_7cf53 20 = .ok (.ireturn, 1) := by decide +kernel
theorem dJ9_floorDiv_7cf53_21 : decode cJ9_floorDiv_7cf53 21 = .ok (.iload_n 2, 1) := by decide +kernel
theorem dJ9_floorDiv_7cf53_22 : decode cJ9_floorDiv_7cf53 22 = .ok (.ireturn, 1) := by decide +kernel
set_option maxHeartbeats 4000000 in
set_option maxRecDepth 100000 in
theorem t_J9_floorDiv_7cf53 {l : Launch} {g : zG} {d : Nat} {s : zS} {p0 : Int32} {p1 : Int32} {K : Int32 → zS → Prop} (h : (¬ p1 = 0 ∧ (if 0 ≤ (p0 ^^^ p1) then K (p0 / p1) s else (if ((p0 / p1) * p1) = p0 then K (p0 / p1) s else K ((p0 / p1) - (1 : Int32)) s)))) : zc l g d M_J9_floorDiv_7cf53 [.int p0, .int p1] s (zKi K) := by
  refine zCall_of k_J9_floorDiv_7cf53 (Nat.le_of_ble_eq_true rfl) (Nat.le_refl _) (fun _ => ?_)
  show zt l g d M_J9_floorDiv_7cf53 0 [.int p0, .int p1, zJ] [] s (zKi K)
  refine z_iload_n (i := 0) dJ9_floorDiv_7cf53_0 rfl rfl rfl ?_
  refine z_iload_n (i := 1) dJ9_floorDiv_7cf53_1 rfl rfl rfl ?_
  obtain ⟨a1, h⟩ := h
  refine z_idiv dJ9_floorDiv_7cf53_2 a1 rfl ?_
  refine z_istore_n (i := 2) dJ9_floorDiv_7cf53_3 rfl (by decide) (zokd rfl) rfl ?_
  show zt l g d M_J9_floorDiv_7cf53 4 [.int p0, .int p1, .int (p0 / p1)] [] s _
  refine z_iload_n (i := 0) dJ9_floorDiv_7cf53_4 rfl rfl rfl ?_
  refine z_iload_n (i := 1) dJ9_floorDiv_7cf53_5 rfl rfl rfl ?_
  refine z_ixor dJ9_floorDiv_7cf53_6 rfl ?_
  refine z_if_ge (pt := 21) dJ9_floorDiv_7cf53_7 (by decide) rfl (fun c => ?_) (fun c => ?_)
  · have h := zit h c
    refine z_iload_n (i := 2) dJ9_floorDiv_7cf53_21 rfl rfl rfl ?_
    exact z_ret (some (.int (p0 / p1))) (Or.inr (Or.inl ⟨_, _, rfl, rfl, rfl, dJ9_floorDiv_7cf53_22⟩)) zN200 ⟨_, rfl, h⟩
  · have h := zif h c
    refine z_iload_n (i := 2) dJ9_floorDiv_7cf53_10 rfl rfl rfl ?_
    refine z_iload_n (i := 1) dJ9_floorDiv_7cf53_11 rfl rfl rfl ?_
    refine z_imul dJ9_floorDiv_7cf53_12 rfl ?_
    refine z_iload_n (i := 0) dJ9_floorDiv_7cf53_13 rfl rfl rfl ?_
    refine z_icmp_eq (pt := 21) dJ9_floorDiv_7cf53_14 (by decide) rfl (fun c => ?_) (fun c => ?_)
    · have h := zit h c
      refine z_iload_n (i := 2) dJ9_floorDiv_7cf53_21 rfl rfl rfl ?_
      exact z_ret (some (.int (p0 / p1))) (Or.inr (Or.inl ⟨_, _, rfl, rfl, rfl, dJ9_floorDiv_7cf53_22⟩)) zN200 ⟨_, rfl, h⟩
    · have h := zif h c
      refine z_iload_n (i := 2) dJ9_floorDiv_7cf53_17 rfl rfl rfl ?_
      refine z_iconst (v := (1 : Int32)) dJ9_floorDiv_7cf53_18 (by decide) rfl ?_
      refine z_isub dJ9_floorDiv_7cf53_19 rfl ?_
      exact z_ret (some (.int ((p0 / p1) - (1 : Int32)))) (Or.inr (Or.inl ⟨_, _, rfl, rfl, rfl, dJ9_floorDiv_7cf53_20⟩)) zN200 ⟨_, rfl, h⟩
theorem dJ9_floorMod_7cf53_0 : decode cJ9_floorMod_7cf53 0 = .ok (.iload_n 0, 1) := by decide +kernel
theorem dJ9_floorMod_7cf53_1 : decode cJ9_floorMod_7cf53 1 = .ok (.iload_n 1, 1) := by decide +kernel
theorem dJ9_floorMod_7cf53_2 : decode cJ9_floorMod_7cf53 2 = .ok (.irem, 1) := by decide +kernel
theorem dJ9_floorMod_7cf53_3 : decode cJ9_floorMod_7cf53 3 = .ok (.istore_n 2, 1) := by decide +kernel
theorem dJ9_floorMod_7cf53_4 : decode cJ9_floorMod_7cf53 4 = .ok (.iload_n 0, 1) := by decide +kernel
theorem dJ9_floorMod_7cf53_5 : decode cJ9_floorMod_7cf53 5 = .ok (.iload_n 1, 1) := by decide +kernel
theorem dJ9_floorMod_7cf53_6 : decode cJ9_floorMod_7cf53 6 = .ok (.ixor, 1) := by decide +kernel
theorem dJ9_floorMod_7cf53_7 : decode cJ9_floorMod_7cf53 7 = .ok (.ifCond .ge 11, 3) := by decide +kernel
theorem dJ9_floorMod_7cf53_10 : decode cJ9_floorMod_7cf53 10 = .ok (.iload_n 2, 1) := by decide +kernel
theorem dJ9_floorMod_7cf53_11 : decode cJ9_floorMod_7cf53 11 = .ok (.ifCond .eq 7, 3) := by decide +kernel
theorem dJ9_floorMod_7cf53_14 : decode cJ9_floorMod_7cf53 14 = .ok (.iload_n 2, 1) := by decide +kernel
theorem dJ9_floorMod_7cf53_15 : decode cJ9_floorMod_7cf53 15 = .ok (.iload_n 1, 1) := by decide +kernel
theorem dJ9_floorMod_7cf53_16 : decode cJ9_floorMod_7cf53 16 = .ok (.iadd, 1) := by decide +kernel
theorem dJ9_floorMod_7cf53_17 : decode cJ9_floorMod_7cf53 17 = .ok (.ireturn, 1) := by decide +kernel
theorem dJ9_floorMod_7cf53_18 : decode cJ9_floorMod_7cf53 18 = .ok (.iload_n 2, 1) := by decide +kernel
theorem dJ9_floorMod_7cf53_19 : decode cJ9_floorMod_7cf53 19 = .ok (.ireturn, 1) := by decide +kernel
set_option maxHeartbeats 4000000 in
set_option maxRecDepth 100000 in
theorem t_J9_floorMod_7cf53 {l : Launch} {g : zG} {d : Nat} {s : zS} {p0 : Int32} {p1 : Int32} {K : Int32 → zS → Prop} (h : (¬ p1 = 0 ∧ (if 0 ≤ (p0 ^^^ p1) then K (p0 % p1) s else (if (p0 % p1) = 0 then K (p0 % p1) s else K ((p0 % p1) + p1) s)))) : zc l g d M_J9_floorMod_7cf53 [.int p0, .int p1] s (zKi K) := by
  refine zCall_of k_J9_floorMod_7cf53 (Nat.le_of_ble_eq_true rfl) (Nat.le_refl _) (fun _ => ?_)
  show zt l g d M_J9_floorMod_7cf53 0 [.int p0, .int p1, zJ] [] s (zKi K)
  refine z_iload_n (i := 0) dJ9_floorMod_7cf53_0 rfl rfl rfl ?_
  refine z_iload_n (i := 1) dJ9_floorMod_7cf53_1 rfl rfl rfl ?_
  obtain ⟨a1, h⟩ := h
  refine z_irem dJ9_floorMod_7cf53_2 a1 rfl ?_
  refine z_istore_n (i := 2) dJ9_floorMod_7cf53_3 rfl (by decide) (zokd rfl) rfl ?_
  show zt l g d M_J9_floorMod_7cf53 4 [.int p0, .int p1, .int (p0 % p1)] [] s _
  refine z_iload_n (i := 0) dJ9_floorMod_7cf53_4 rfl rfl rfl ?_
  refine z_iload_n (i := 1) dJ9_floorMod_7cf53_5 rfl rfl rfl ?_
  refine z_ixor dJ9_floorMod_7cf53_6 rfl ?_
  refine z_if_ge (pt := 18) dJ9_floorMod_7cf53_7 (by decide) rfl (fun c => ?_) (fun c => ?_)
  · have h := zit h c
    refine z_iload_n (i := 2) dJ9_floorMod_7cf53_18 rfl rfl rfl ?_
    exact z_ret (some (.int (p0 % p1))) (Or.inr (Or.inl ⟨_, _, rfl, rfl, rfl, dJ9_floorMod_7cf53_19⟩)) zN200 ⟨_, rfl, h⟩
  · have h := zif h c
    refine z_iload_n (i := 2) dJ9_floorMod_7cf53_10 rfl rfl rfl ?_
    refine z_if_eq (pt := 18) dJ9_floorMod_7cf53_11 (by decide) rfl (fun c => ?_) (fun c => ?_)
    · have h := zit h c
      refine z_iload_n (i := 2) dJ9_floorMod_7cf53_18 rfl rfl rfl ?_
      exact z_ret (some (.int (p0 % p1))) (Or.inr (Or.inl ⟨_, _, rfl, rfl, rfl, dJ9_floorMod_7cf53_19⟩)) zN200 ⟨_, rfl, h⟩
    · have h := zif h c
      refine z_iload_n (i := 2) dJ9_floorMod_7cf53_14 rfl rfl rfl ?_
      refine z_iload_n (i := 1) dJ9_floorMod_7cf53_15 rfl rfl rfl ?_
      refine z_iadd dJ9_floorMod_7cf53_16 rfl ?_
      exact z_ret (some (.int ((p0 % p1) + p1))) (Or.inr (Or.inl ⟨_, _, rfl, rfl, rfl, dJ9_floorMod_7cf53_17⟩)) zN200 ⟨_, rfl, h⟩
theorem dJ9_max_f86c9_0 : decode cJ9_max_f86c9 0 = .ok (.lload_n 0, 1) := by decide +kernel
theorem dJ9_max_f86c9_1 : decode cJ9_max_f86c9 1 = .ok (.lload_n 2, 1) := by decide +kernel
theorem dJ9_max_f86c9_2 : decode cJ9_max_f86c9 2 = .ok (.lcmp, 1) := by decide +kernel
theorem dJ9_max_f86c9_3 : decode cJ9_max_f86c9 3 = .ok (.ifCond .lt 7, 3) := by decide +kernel
theorem dJ9_max_f86c9_6 : decode cJ9_max_f86c9 6 = .ok (.lload_n 0, 1) := by decide +kernel
theorem dJ9_max_f86c9_7 : decode cJ9_max_f86c9 7 = .ok (.goto 4, 3) := by decide +kernel
theorem dJ9_max_f86c9_10 : decode cJ9_max_f86c9 10 = .ok (.lload_n 2, 1) := by decide +kernel
theorem dJ9_max_f86c9_11 : decode cJ9_max_f86c9 11 = .ok (.lreturn, 1) := by decide +kernel
set_option maxHeartbeats 4000000 in
set_option maxRecDepth 100000 in
theorem t_J9_max_f86c9 {l : Launch} {g : zG} {d : Nat} {s : zS} {p0 : Int64} {p1 : Int64} {K : Int64 → zS → Prop} (h : (if (lg_cmp p0 p1) < 0 then K p1 s else K p0 s)) : zc l g d M_J9_max_f86c9 [.long p0, .long p1] s (zKl K) := by
  refine zCall_of k_J9_max_f86c9 (Nat.le_of_ble_eq_true rfl) (Nat.le_refl _) (fun _ => ?_)
  show zt l g d M_J9_max_f86c9 0 [.long p0, zJ, .long p1, zJ] [] s (zKl K)
  refine z_lload_n (i := 0) dJ9_max_f86c9_0 rfl rfl rfl ?_
  refine z_lload_n (i := 2) dJ9_max_f86c9_1 rfl rfl rfl ?_
  refine z_lcmp dJ9_max_f86c9_2 rfl ?_
  refine z_if_lt (pt := 10) dJ9_max_f86c9_3 (by decide) rfl (fun c => ?_) (fun c => ?_)
  · have h := zit h c
    refine z_lload_n (i := 2) dJ9_max_f86c9_10 rfl rfl rfl ?_
    exact z_ret (some (.long p1)) (Or.inr (Or.inr (Or.inr ⟨_, rfl, rfl, dJ9_max_f86c9_11⟩))) zN200 ⟨_, rfl, h⟩
  · have h := zif h c
    refine z_lload_n (i := 0) dJ9_max_f86c9_6 rfl rfl rfl ?_
    refine z_goto (pn := 11) dJ9_max_f86c9_7 (by decide) ?_
    exact z_ret (some (.long p0)) (Or.inr (Or.inr (Or.inr ⟨_, rfl, rfl, dJ9_max_f86c9_11⟩))) zN200 ⟨_, rfl, h⟩
theorem dJ9_min_f86c9_0 : decode cJ9_min_f86c9 0 = .ok (.lload_n 0, 1) := by decide +kernel
theorem dJ9_min_f86c9_1 : decode cJ9_min_f86c9 1 = .ok (.lload_n 2, 1) := by decide +kernel
theorem dJ9_min_f86c9_2 : decode cJ9_min_f86c9 2 = .ok (.lcmp, 1) := by decide +kernel
theorem dJ9_min_f86c9_3 : decode cJ9_min_f86c9 3 = .ok (.ifCond .gt 7, 3) := by decide +kernel
theorem dJ9_min_f86c9_6 : decode cJ9_min_f86c9 6 = .ok (.lload_n 0, 1) := by decide +kernel
theorem dJ9_min_f86c9_7 : decode cJ9_min_f86c9 7 = .ok (.goto 4, 3) := by decide +kernel
theorem dJ9_min_f86c9_10 : decode cJ9_min_f86c9 10 = .ok (.lload_n 2, 1) := by decide +kernel
theorem dJ9_min_f86c9_11 : decode cJ9_min_f86c9 11 = .ok (.lreturn, 1) := by decide +kernel
set_option maxHeartbeats 4000000 in
set_option maxRecDepth 100000 in
theorem t_J9_min_f86c9 {l : Launch} {g : zG} {d : Nat} {s : zS} {p0 : Int64} {p1 : Int64} {K : Int64 → zS → Prop} (h : (if 0 < (lg_cmp p0 p1) then K p1 s else K p0 s)) : zc l g d M_J9_min_f86c9 [.long p0, .long p1] s (zKl K) := by
  refine zCall_of k_J9_min_f86c9 (Nat.le_of_ble_eq_true rfl) (Nat.le_refl _) (fun _ => ?_)
  show zt l g d M_J9_min_f86c9 0 [.long p0, zJ, .long p1, zJ] [] s (zKl K)
  refine z_lload_n (i := 0) dJ9_min_f86c9_0 rfl rfl rfl ?_
  refine z_lload_n (i := 2) dJ9_min_f86c9_1 rfl rfl rfl ?_
  refine z_lcmp dJ9_min_f86c9_2 rfl ?_
  refine z_if_gt (pt := 10) dJ9_min_f86c9_3 (by decide) rfl (fun c => ?_) (fun c => ?_)
  · have h := zit h c
    refine z_lload_n (i := 2) dJ9_min_f86c9_10 rfl rfl rfl ?_
    exact z_ret (some (.long p1)) (Or.inr (Or.inr (Or.inr ⟨_, rfl, rfl, dJ9_min_f86c9_11⟩))) zN200 ⟨_, rfl, h⟩
  · have h := zif h c
    refine z_lload_n (i := 0) dJ9_min_f86c9_6 rfl rfl rfl ?_
    refine z_goto (pn := 11) dJ9_min_f86c9_7 (by decide) ?_
    exact z_ret (some (.long p0)) (Or.inr (Or.inr (Or.inr ⟨_, rfl, rfl, dJ9_min_f86c9_11⟩))) zN200 ⟨_, rfl, h⟩
theorem dJ6_bitCount_0f7a4_0 : decode cJ6_bitCount_0f7a4 0 = .ok (.iload_n 0, 1) := by decide +kernel
theorem dJ6_bitCount_0f7a4_1 : decode cJ6_bitCount_0f7a4 1 = .ok (.iload_n 0, 1) := by decide +kernel
theorem dJ6_bitCount_0f7a4_2 : decode cJ6_bitCount_0f7a4 2 = .ok (.iconst 1, 1) := by decide +kernel
theorem dJ6_bitCount_0f7a4_3 : decode cJ6_bitCount_0f7a4 3 = .ok (.iushr, 1) := by decide +kernel
theorem dJ6_bitCount_0f7a4_4 : decode cJ6_bitCount_0f7a4 4 = .ok (.ldc_w 265, 3) := by decide +kernel
theorem dJ6_bitCount_0f7a4_7 : decode cJ6_bitCount_0f7a4 7 = .ok (.iand, 1) := by decide +kernel
theorem dJ6_bitCount_0f7a4_8 : decode cJ6_bitCount_0f7a4 8 = .ok (.isub, 1) := by decide +kernel
theorem dJ6_bitCount_0f7a4_9 : decode cJ6_bitCount_0f7a4 9 = .ok (.istore_n 0, 1) := by decide +kernel
theorem dJ6_bitCount_0f7a4_10 : decode cJ6_bitCount_0f7a4 10 = .ok (.iload_n 0, 1) := by decide +kernel
theorem dJ6_bitCount_0f7a4_11 : decode cJ6_bitCount_0f7a4 11 = .ok (.ldc_w 266, 3) := by decide +kernel
theorem dJ6_bitCount_0f7a4_14 : decode cJ6_bitCount_0f7a4 14 = .ok (.iand, 1) := by decide +kernel
theorem dJ6_bitCount_0f7a4_15 : decode cJ6_bitCount_0f7a4 15 = .ok (.iload_n 0, 1) := by decide +kernel
theorem dJ6_bitCount_0f7a4_16 : decode cJ6_bitCount_0f7a4 16 = .ok (.iconst 2, 1) := by decide +kernel
theorem dJ6_bitCount_0f7a4_17 : decode cJ6_bitCount_0f7a4 17 = .ok (.iushr, 1) := by decide +kernel
theorem dJ6_bitCount_0f7a4_18 : decode cJ6_bitCount_0f7a4 18 = .ok (.ldc_w 266, 3) := by decide +kernel
theorem dJ6_bitCount_0f7a4_21 : decode cJ6_bitCount_0f7a4 21 = .ok (.iand, 1) := by decide +kernel
theorem dJ6_bitCount_0f7a4_22 : decode cJ6_bitCount_0f7a4 22 = .ok (.iadd, 1) := by decide +kernel
theorem dJ6_bitCount_0f7a4_23 : decode cJ6_bitCount_0f7a4 23 = .ok (.istore_n 0, 1) := by decide +kernel
theorem dJ6_bitCount_0f7a4_24 : decode cJ6_bitCount_0f7a4 24 = .ok (.iload_n 0, 1) := by decide +kernel
theorem dJ6_bitCount_0f7a4_25 : decode cJ6_bitCount_0f7a4 25 = .ok (.iload_n 0, 1) := by decide +kernel
theorem dJ6_bitCount_0f7a4_26 : decode cJ6_bitCount_0f7a4 26 = .ok (.iconst 4, 1) := by decide +kernel
theorem dJ6_bitCount_0f7a4_27 : decode cJ6_bitCount_0f7a4 27 = .ok (.iushr, 1) := by decide +kernel
theorem dJ6_bitCount_0f7a4_28 : decode cJ6_bitCount_0f7a4 28 = .ok (.iadd, 1) := by decide +kernel
theorem dJ6_bitCount_0f7a4_29 : decode cJ6_bitCount_0f7a4 29 = .ok (.ldc_w 267, 3) := by decide +kernel
theorem dJ6_bitCount_0f7a4_32 : decode cJ6_bitCount_0f7a4 32 = .ok (.iand, 1) := by decide +kernel
theorem dJ6_bitCount_0f7a4_33 : decode cJ6_bitCount_0f7a4 33 = .ok (.istore_n 0, 1) := by decide +kernel
theorem dJ6_bitCount_0f7a4_34 : decode cJ6_bitCount_0f7a4 34 = .ok (.iload_n 0, 1) := by decide +kernel
theorem dJ6_bitCount_0f7a4_35 : decode cJ6_bitCount_0f7a4 35 = .ok (.iload_n 0, 1) := by decide +kernel
theorem dJ6_bitCount_0f7a4_36 : decode cJ6_bitCount_0f7a4 36 = .ok (.bipush 8, 2) := by decide +kernel
theorem dJ6_bitCount_0f7a4_38 : decode cJ6_bitCount_0f7a4 38 = .ok (.iushr, 1) := by decide +kernel
theorem dJ6_bitCount_0f7a4_39 : decode cJ6_bitCount_0f7a4 39 = .ok (.iadd, 1) := by decide +kernel
theorem dJ6_bitCount_0f7a4_40 : decode cJ6_bitCount_0f7a4 40 = .ok (.istore_n 0, 1) := by decide +kernel
theorem dJ6_bitCount_0f7a4_41 : decode cJ6_bitCount_0f7a4 41 = .ok (.iload_n 0, 1) := by decide +kernel
theorem dJ6_bitCount_0f7a4_42 : decode cJ6_bitCount_0f7a4 42 = .ok (.iload_n 0, 1) := by decide +kernel
theorem dJ6_bitCount_0f7a4_43 : decode cJ6_bitCount_0f7a4 43 = .ok (.bipush 16, 2) := by decide +kernel
theorem dJ6_bitCount_0f7a4_45 : decode cJ6_bitCount_0f7a4 45 = .ok (.iushr, 1) := by decide +kernel
theorem dJ6_bitCount_0f7a4_46 : decode cJ6_bitCount_0f7a4 46 = .ok (.iadd, 1) := by decide +kernel
theorem dJ6_bitCount_0f7a4_47 : decode cJ6_bitCount_0f7a4 47 = .ok (.istore_n 0, 1) := by decide +kernel
theorem dJ6_bitCount_0f7a4_48 : decode cJ6_bitCount_0f7a4 48 = .ok (.iload_n 0, 1) := by decide +kernel
theorem dJ6_bitCount_0f7a4_49 : decode cJ6_bitCount_0f7a4 49 = .ok (.bipush 63, 2) := by decide +kernel
theorem dJ6_bitCount_0f7a4_51 : decode cJ6_bitCount_0f7a4 51 = .ok (.iand, 1) := by decide +kernel
theorem dJ6_bitCount_0f7a4_52 : decode cJ6_bitCount_0f7a4 52 = .ok (.ireturn, 1) := by decide +kernel
set_option maxHeartbeats 4000000 in
set_option maxRecDepth 100000 in
theorem t_J6_bitCount_0f7a4 {l : Launch} {g : zG} {d : Nat} {s : zS} {p0 : Int32} {K : Int32 → zS → Prop} (h : (∀ v1 : Int32, v1 = p0 - ((zushr p0 (1 : Int32)) &&& (1431655765 : Int32)) → (∀ v2 : Int32, v2 = (v1 &&& (858993459 : Int32)) + ((zushr v1 (2 : Int32)) &&& (858993459 : Int32)) → (∀ v3 : Int32, v3 = (v2 + (zushr v2 (4 : Int32))) &&& (252645135 : Int32) → (∀ v4 : Int32, v4 = v3 + (zushr v3 (8 : Int32)) → (∀ v5 : Int32, v5 = v4 + (zushr v4 (16 : Int32)) → K (v5 &&& (63 : Int32)) s)))))) : zc l g d M_J6_bitCount_0f7a4 [.int p0] s (zKi K) := by
  refine zCall_of k_J6_bitCount_0f7a4 (Nat.le_of_ble_eq_true rfl) (Nat.le_refl _) (fun _ => ?_)
  show zt l g d M_J6_bitCount_0f7a4 0 [.int p0] [] s (zKi K)
  refine z_iload_n (i := 0) dJ6_bitCount_0f7a4_0 rfl rfl rfl ?_
  refine z_iload_n (i := 0) dJ6_bitCount_0f7a4_1 rfl rfl rfl ?_
  refine z_iconst (v := (1 : Int32)) dJ6_bitCount_0f7a4_2 (by decide) rfl ?_
  refine z_iushr dJ6_bitCount_0f7a4_3 rfl ?_
  refine z_ldc_w (v := (1431655765 : Int32)) q_J6_265 dJ6_bitCount_0f7a4_4 rfl ?_
  refine z_iand dJ6_bitCount_0f7a4_7 rfl ?_
  refine z_isub dJ6_bitCount_0f7a4_8 rfl ?_
  refine z_istore_n (i := 0) dJ6_bitCount_0f7a4_9 rfl (by decide) zok0 rfl ?_
  obtain ⟨v1, ev1⟩ : ∃ x : Int32, x = p0 - ((zushr p0 (1 : Int32)) &&& (1431655765 : Int32)) := ⟨_, rfl⟩
  rw [← ev1]
  have h := h v1 ev1
  show zt l g d M_J6_bitCount_0f7a4 10 [.int v1] [] s _
  refine z_iload_n (i := 0) dJ6_bitCount_0f7a4_10 rfl rfl rfl ?_
  refine z_ldc_w (v := (858993459 : Int32)) q_J6_266 dJ6_bitCount_0f7a4_11 rfl ?_
  refine z_iand dJ6_bitCount_0f7a4_14 rfl ?_
  refine z_iload_n (i := 0) dJ6_bitCount_0f7a4_15 rfl rfl rfl ?_
  refine z_iconst (v := (2 : Int32)) dJ6_bitCount_0f7a4_16 (by decide) rfl ?_
  refine z_iushr dJ6_bitCount_0f7a4_17 rfl ?_
  refine z_ldc_w (v := (858993459 : Int32)) q_J6_266 dJ6_bitCount_0f7a4_18 rfl ?_
  refine z_iand dJ6_bitCount_0f7a4_21 rfl ?_
  refine z_iadd dJ6_bitCount_0f7a4_22 rfl ?_
  refine z_istore_n (i := 0) dJ6_bitCount_0f7a4_23 rfl (by decide) zok0 rfl ?_
  obtain ⟨v2, ev2⟩ : ∃ x : Int32, x = (v1 &&& (858993459 : Int32)) + ((zushr v1 (2 : Int32)) &&& (858993459 : Int32)) := ⟨_, rfl⟩
  rw [← ev2]
  have h := h v2 ev2
  show zt l g d M_J6_bitCount_0f7a4 24 [.int v2] [] s _
  refine z_iload_n (i := 0) dJ6_bitCount_0f7a4_24 rfl rfl rfl ?_
  refine z_iload_n (i := 0) dJ6_bitCount_0f7a4_25 rfl rfl rfl ?_
  refine z_iconst (v := (4 : Int32)) dJ6_bitCount_0f7a4_26 (by decide) rfl ?_
  refine z_iushr dJ6_bitCount_0f7a4_27 rfl ?_
  refine z_iadd dJ6_bitCount_0f7a4_28 rfl ?_
  refine z_ldc_w (v := (252645135 : Int32)) q_J6_267 dJ6_bitCount_0f7a4_29 rfl ?_
  refine z_iand dJ6_bitCount_0f7a4_32 rfl ?_
  refine z_istore_n (i := 0) dJ6_bitCount_0f7a4_33 rfl (by decide) zok0 rfl ?_
  obtain ⟨v3, ev3⟩ : ∃ x : Int32, x = (v2 + (zushr v2 (4 : Int32))) &&& (252645135 : Int32) := ⟨_, rfl⟩
  rw [← ev3]
  have h := h v3 ev3
  show zt l g d M_J6_bitCount_0f7a4 34 [.int v3] [] s _
  refine z_iload_n (i := 0) dJ6_bitCount_0f7a4_34 rfl rfl rfl ?_
  refine z_iload_n (i := 0) dJ6_bitCount_0f7a4_35 rfl rfl rfl ?_
  refine z_bipush (v := (8 : Int32)) dJ6_bitCount_0f7a4_36 (by decide) rfl ?_
  refine z_iushr dJ6_bitCount_0f7a4_38 rfl ?_
  refine z_iadd dJ6_bitCount_0f7a4_39 rfl ?_
  refine z_istore_n (i := 0) dJ6_bitCount_0f7a4_40 rfl (by decide) zok0 rfl ?_
  obtain ⟨v4, ev4⟩ : ∃ x : Int32, x = v3 + (zushr v3 (8 : Int32)) := ⟨_, rfl⟩
  rw [← ev4]
  have h := h v4 ev4
  show zt l g d M_J6_bitCount_0f7a4 41 [.int v4] [] s _
  refine z_iload_n (i := 0) dJ6_bitCount_0f7a4_41 rfl rfl rfl ?_
  refine z_iload_n (i := 0) dJ6_bitCount_0f7a4_42 rfl rfl rfl ?_
  refine z_bipush (v := (16 : Int32)) dJ6_bitCount_0f7a4_43 (by decide) rfl ?_
  refine z_iushr dJ6_bitCount_0f7a4_45 rfl ?_
  refine z_iadd dJ6_bitCount_0f7a4_46 rfl ?_
  refine z_istore_n (i := 0) dJ6_bitCount_0f7a4_47 rfl (by decide) zok0 rfl ?_
  obtain ⟨v5, ev5⟩ : ∃ x : Int32, x = v4 + (zushr v4 (16 : Int32)) := ⟨_, rfl⟩
  rw [← ev5]
  have h := h v5 ev5
  show zt l g d M_J6_bitCount_0f7a4 48 [.int v5] [] s _
  refine z_iload_n (i := 0) dJ6_bitCount_0f7a4_48 rfl rfl rfl ?_
  refine z_bipush (v := (63 : Int32)) dJ6_bitCount_0f7a4_49 (by decide) rfl ?_
  refine z_iand dJ6_bitCount_0f7a4_51 rfl ?_
  exact z_ret (some (.int (v5 &&& (63 : Int32)))) (Or.inr (Or.inl ⟨_, _, rfl, rfl, rfl, dJ6_bitCount_0f7a4_52⟩)) zN200 ⟨_, rfl, h⟩
theorem dX8_in_0 : decode cX8_in 0 = .ok (.lload_n 0, 1) := by decide +kernel
theorem dX8_in_1 : decode cX8_in 1 = .ok (.lload_n 2, 1) := by decide +kernel
theorem dX8_in_2 : decode cX8_in 2 = .ok (.lcmp, 1) := by decide +kernel
theorem dX8_in_3 : decode cX8_in 3 = .ok (.ifCond .lt 14, 3) := by decide +kernel
theorem dX8_in_6 : decode cX8_in 6 = .ok (.lload_n 0, 1) := by decide +kernel
theorem dX8_in_7 : decode cX8_in 7 = .ok (.lload 4, 2) := by decide +kernel
theorem dX8_in_9 : decode cX8_in 9 = .ok (.lcmp, 1) := by decide +kernel
theorem dX8_in_10 : decode cX8_in 10 = .ok (.ifCond .gt 7, 3) := by decide +kernel
theorem dX8_in_13 : decode cX8_in 13 = .ok (.iconst 1, 1) := by decide +kernel
theorem dX8_in_14 : decode cX8_in 14 = .ok (.goto 4, 3) := by decide +kernel
theorem dX8_in_17 : decode cX8_in 17 = .ok (.iconst 0, 1) := by decide +kernel
theorem dX8_in_18 : decode cX8_in 18 = .ok (.ireturn, 1) := by decide +kernel
set_option maxHeartbeats 4000000 in
set_option maxRecDepth 100000 in
theorem t_X8_in {l : Launch} {g : zG} {d : Nat} {s : zS} {p0 : Int64} {p1 : Int64} {p2 : Int64} {K : Bool → zS → Prop} (h : (if (lg_cmp p0 p1) < 0 then K false s else (if 0 < (lg_cmp p0 p2) then K false s else K true s))) : zc l g d M_X8_in [.long p0, .long p1, .long p2] s (zKz K) := by
  refine zCall_of k_X8_in (Nat.le_of_ble_eq_true rfl) (Nat.le_refl _) (fun _ => ?_)
  show zt l g d M_X8_in 0 [.long p0, zJ, .long p1, zJ, .long p2, zJ] [] s (zKz K)
  refine z_lload_n (i := 0) dX8_in_0 rfl rfl rfl ?_
  refine z_lload_n (i := 2) dX8_in_1 rfl rfl rfl ?_
  refine z_lcmp dX8_in_2 rfl ?_
  refine z_if_lt (pt := 17) dX8_in_3 (by decide) rfl (fun c => ?_) (fun c => ?_)
  · have h := zit h c
    refine z_iconst (v := (0 : Int32)) dX8_in_17 (by decide) rfl ?_
    exact z_ret (some (.int (zb false))) (Or.inr (Or.inl ⟨_, _, rfl, rfl, zb_nar _, dX8_in_18⟩)) zN200 ⟨_, rfl, h⟩
  · have h := zif h c
    refine z_lload_n (i := 0) dX8_in_6 rfl rfl rfl ?_
    refine z_lload dX8_in_7 rfl rfl ?_
    refine z_lcmp dX8_in_9 rfl ?_
    refine z_if_gt (pt := 17) dX8_in_10 (by decide) rfl (fun c => ?_) (fun c => ?_)
    · have h := zit h c
      refine z_iconst (v := (0 : Int32)) dX8_in_17 (by decide) rfl ?_
      exact z_ret (some (.int (zb false))) (Or.inr (Or.inl ⟨_, _, rfl, rfl, zb_nar _, dX8_in_18⟩)) zN200 ⟨_, rfl, h⟩
    · have h := zif h c
      refine z_iconst (v := (1 : Int32)) dX8_in_13 (by decide) rfl ?_
      refine z_goto (pn := 18) dX8_in_14 (by decide) ?_
      exact z_ret (some (.int (zb true))) (Or.inr (Or.inl ⟨_, _, rfl, rfl, zb_nar _, dX8_in_18⟩)) zN200 ⟨_, rfl, h⟩
def zmax (x y : Int32) : Int32 := if x < y then y else x
def zmin (x y : Int32) : Int32 := if y < x then y else x
def zabs (x : Int32) : Int32 := if 0 ≤ x then x else -x
def zfd (x y : Int32) : Int32 := if 0 ≤ (x ^^^ y) then x / y else if (x / y) * y = x then x / y else x / y - 1
def zfm (x y : Int32) : Int32 := if 0 ≤ (x ^^^ y) then x % y else if x % y = 0 then x % y else x % y + y
def zmaxL (x y : Int64) : Int64 := if x < y then y else x
def zminL (x y : Int64) : Int64 := if y < x then y else x
def zbc (x : Int32) : Int32 :=
  let a := x - (zushr x 1 &&& 1431655765)
  let b := (a &&& 858993459) + (zushr a 2 &&& 858993459)
  let c := (b + zushr b 4) &&& 252645135
  let e := c + zushr c 8
  (e + zushr e 16) &&& 63
def zinr (x lo hi : Int64) : Bool := decide (lo ≤ x) && decide (x ≤ hi)
section ZH
variable {l : Launch} {g : zG} {d : Nat} {M : zM} {pc pn : Nat} {ls st : List Value} {σ : zS} {K : Option Value → zS → Prop}
theorem zcmp_gt {x y : Int64} : 0 < lg_cmp x y ↔ y < x := by
  unfold lg_cmp
  by_cases h : y < x
  · rw [if_pos h]
    exact ⟨fun _ => h, fun _ => by decide⟩
  · rw [if_neg h]
    refine ⟨fun q => ?_, fun q => absurd q h⟩
    by_cases h2 : x = y
    · rw [if_pos h2] at q
      exact absurd q (by decide)
    · rw [if_neg h2] at q
      exact absurd q (by decide)
theorem zcmp_lt {x y : Int64} : lg_cmp x y < 0 ↔ x < y := by
  unfold lg_cmp
  by_cases h : y < x
  · rw [if_pos h]
    exact ⟨fun q => absurd q (by decide), fun q => absurd h (Int64.lt_asymm q)⟩
  · rw [if_neg h]
    by_cases h2 : x = y
    · rw [if_pos h2]
      exact ⟨fun q => absurd q (by decide), fun q => by subst h2; exact absurd q (Int64.lt_irrefl)⟩
    · rw [if_neg h2]
      exact ⟨fun _ => Int64.lt_of_le_of_ne (Int64.not_lt.mp h) h2, fun _ => by decide⟩

theorem z_mmax {i : Nat} {x y : Int32} (hl : zLkS M.1.cls i M_J9_max_7cf53) (hd : decode M.2.1 pc = .ok (.invokestatic i, 3)) (hst : (st.map fun v => v.category).sum ≤ 8) (hn : pc + 3 = pn) (k : zt l g (d + 1) M pn ls (.int (zmax x y) :: st) σ K) : zt l g (d + 1) M pc ls (.int y :: .int x :: st) σ K :=
  z_callS (as := [.int x, .int y]) (K' := zKi (fun r s => r = zmax x y ∧ s = σ)) k_J9_max_7cf53 hl rfl (t_J9_max_7cf53 (by unfold zmax; split <;> simp_all)) rfl hst hd zy200 hn (by rintro v s ⟨r, rfl, rfl, rfl⟩; exact k)
theorem z_mmin {i : Nat} {x y : Int32} (hl : zLkS M.1.cls i M_J9_min_7cf53) (hd : decode M.2.1 pc = .ok (.invokestatic i, 3)) (hst : (st.map fun v => v.category).sum ≤ 8) (hn : pc + 3 = pn) (k : zt l g (d + 1) M pn ls (.int (zmin x y) :: st) σ K) : zt l g (d + 1) M pc ls (.int y :: .int x :: st) σ K :=
  z_callS (as := [.int x, .int y]) (K' := zKi (fun r s => r = zmin x y ∧ s = σ)) k_J9_min_7cf53 hl rfl (t_J9_min_7cf53 (by unfold zmin; split <;> simp_all)) rfl hst hd zy200 hn (by rintro v s ⟨r, rfl, rfl, rfl⟩; exact k)
theorem z_mabs {i : Nat} {x : Int32} (hl : zLkS M.1.cls i M_J9_abs_0f7a4) (hd : decode M.2.1 pc = .ok (.invokestatic i, 3)) (hst : (st.map fun v => v.category).sum ≤ 8) (hn : pc + 3 = pn) (k : zt l g (d + 1) M pn ls (.int (zabs x) :: st) σ K) : zt l g (d + 1) M pc ls (.int x :: st) σ K :=
  z_callS (as := [.int x]) (K' := zKi (fun r s => r = zabs x ∧ s = σ)) k_J9_abs_0f7a4 hl rfl (t_J9_abs_0f7a4 (by unfold zabs; split <;> simp_all)) rfl hst hd zy200 hn (by rintro v s ⟨r, rfl, rfl, rfl⟩; exact k)
theorem z_fdiv {i : Nat} {x y : Int32} (hl : zLkS M.1.cls i M_J9_floorDiv_7cf53) (hy : ¬ y = 0) (hd : decode M.2.1 pc = .ok (.invokestatic i, 3)) (hst : (st.map fun v => v.category).sum ≤ 8) (hn : pc + 3 = pn) (k : zt l g (d + 1) M pn ls (.int (zfd x y) :: st) σ K) : zt l g (d + 1) M pc ls (.int y :: .int x :: st) σ K :=
  z_callS (as := [.int x, .int y]) (K' := zKi (fun r s => r = zfd x y ∧ s = σ)) k_J9_floorDiv_7cf53 hl rfl (t_J9_floorDiv_7cf53 ⟨hy, by unfold zfd; split <;> (try split) <;> simp_all⟩) rfl hst hd zy200 hn (by rintro v s ⟨r, rfl, rfl, rfl⟩; exact k)
theorem z_fmod {i : Nat} {x y : Int32} (hl : zLkS M.1.cls i M_J9_floorMod_7cf53) (hy : ¬ y = 0) (hd : decode M.2.1 pc = .ok (.invokestatic i, 3)) (hst : (st.map fun v => v.category).sum ≤ 8) (hn : pc + 3 = pn) (k : zt l g (d + 1) M pn ls (.int (zfm x y) :: st) σ K) : zt l g (d + 1) M pc ls (.int y :: .int x :: st) σ K :=
  z_callS (as := [.int x, .int y]) (K' := zKi (fun r s => r = zfm x y ∧ s = σ)) k_J9_floorMod_7cf53 hl rfl (t_J9_floorMod_7cf53 ⟨hy, by unfold zfm; split <;> (try split) <;> simp_all⟩) rfl hst hd zy200 hn (by rintro v s ⟨r, rfl, rfl, rfl⟩; exact k)
theorem z_bitc {i : Nat} {x : Int32} (hl : zLkS M.1.cls i M_J6_bitCount_0f7a4) (hd : decode M.2.1 pc = .ok (.invokestatic i, 3)) (hst : (st.map fun v => v.category).sum ≤ 8) (hn : pc + 3 = pn) (k : zt l g (d + 1) M pn ls (.int (zbc x) :: st) σ K) : zt l g (d + 1) M pc ls (.int x :: st) σ K :=
  z_callS (as := [.int x]) (K' := zKi (fun r s => r = zbc x ∧ s = σ)) k_J6_bitCount_0f7a4 hl rfl (t_J6_bitCount_0f7a4 (by rintro _ rfl _ rfl _ rfl _ rfl _ rfl; exact ⟨rfl, rfl⟩)) rfl hst hd zy200 hn (by rintro v s ⟨r, rfl, rfl, rfl⟩; exact k)
theorem z_mmaxL {i : Nat} {x y : Int64} (hl : zLkS M.1.cls i M_J9_max_f86c9) (hd : decode M.2.1 pc = .ok (.invokestatic i, 3)) (hst : (st.map fun v => v.category).sum ≤ 8) (hn : pc + 3 = pn) (k : zt l g (d + 1) M pn ls (.long (zmaxL x y) :: st) σ K) : zt l g (d + 1) M pc ls (.long y :: .long x :: st) σ K :=
  z_callS (as := [.long x, .long y]) (K' := zKl (fun r s => r = zmaxL x y ∧ s = σ)) k_J9_max_f86c9 hl rfl (t_J9_max_f86c9 (by unfold zmaxL; simp only [zcmp_lt]; split <;> simp_all)) rfl hst hd zy200 hn (by rintro v s ⟨r, rfl, rfl, rfl⟩; exact k)
theorem z_mminL {i : Nat} {x y : Int64} (hl : zLkS M.1.cls i M_J9_min_f86c9) (hd : decode M.2.1 pc = .ok (.invokestatic i, 3)) (hst : (st.map fun v => v.category).sum ≤ 8) (hn : pc + 3 = pn) (k : zt l g (d + 1) M pn ls (.long (zminL x y) :: st) σ K) : zt l g (d + 1) M pc ls (.long y :: .long x :: st) σ K :=
  z_callS (as := [.long x, .long y]) (K' := zKl (fun r s => r = zminL x y ∧ s = σ)) k_J9_min_f86c9 hl rfl (t_J9_min_f86c9 (by unfold zminL; simp only [zcmp_gt]; split <;> simp_all)) rfl hst hd zy200 hn (by rintro v s ⟨r, rfl, rfl, rfl⟩; exact k)
theorem zinr_t (x lo hi : Int64) (σ : zS) : if lg_cmp x lo < 0 then false = zinr x lo hi ∧ σ = σ else if 0 < lg_cmp x hi then false = zinr x lo hi ∧ σ = σ else true = zinr x lo hi ∧ σ = σ := by
  simp only [zcmp_lt, zcmp_gt]
  by_cases h1 : x < lo
  · rw [if_pos h1]; exact ⟨by simp [zinr, Int64.not_le.mpr h1], trivial⟩
  · rw [if_neg h1]
    by_cases h2 : hi < x
    · rw [if_pos h2]; exact ⟨by simp [zinr, Int64.not_le.mpr h2], trivial⟩
    · rw [if_neg h2]; exact ⟨by simp [zinr, Int64.not_lt.mp h1, Int64.not_lt.mp h2], trivial⟩
theorem z_in {i : Nat} {x lo hi : Int64} (hl : zLkS M.1.cls i M_X8_in) (hd : decode M.2.1 pc = .ok (.invokestatic i, 3)) (hst : (st.map fun v => v.category).sum ≤ 8) (hn : pc + 3 = pn) (k : zt l g (d + 1) M pn ls (.int (zb (zinr x lo hi)) :: st) σ K) : zt l g (d + 1) M pc ls (.long hi :: .long lo :: .long x :: st) σ K :=
  z_callS (as := [.long x, .long lo, .long hi]) (K' := zKz (fun r s => r = zinr x lo hi ∧ s = σ)) k_X8_in hl rfl (t_X8_in (zinr_t x lo hi σ)) rfl hst hd zy200 hn (by rintro v s ⟨r, rfl, rfl, rfl⟩; exact k)
end ZH
theorem dJ0_coder_7d493_0 : decode cJ0_coder_7d493 0 = .ok (.getstatic 38, 3) := by decide +kernel
theorem dJ0_coder_7d493_3 : decode cJ0_coder_7d493 3 = .ok (.ifCond .eq 10, 3) := by decide +kernel
theorem dJ0_coder_7d493_6 : decode cJ0_coder_7d493 6 = .ok (.aload_n 0, 1) := by decide +kernel
theorem dJ0_coder_7d493_7 : decode cJ0_coder_7d493 7 = .ok (.getfield 15, 3) := by decide +kernel
theorem dJ0_coder_7d493_10 : decode cJ0_coder_7d493 10 = .ok (.goto 4, 3) := by decide +kernel
theorem dJ0_coder_7d493_13 : decode cJ0_coder_7d493 13 = .ok (.iconst 1, 1) := by decide +kernel
theorem dJ0_coder_7d493_14 : decode cJ0_coder_7d493 14 = .ok (.ireturn, 1) := by decide +kernel
set_option maxHeartbeats 4000000 in
set_option maxRecDepth 100000 in
theorem t_J0_coder_7d493 {l : Launch} {g : zG} {d : Nat} {s : zS} {i : Nat} (hi : i < 20) {K : Int32 → zS → Prop} (h : (narrow .byte (.int (0 : Int32)) = .int (0 : Int32) ∧ K (0 : Int32) s)) : zc l g d M_J0_coder_7d493 [.ref (2 + i)] s (zKi K) := by
  refine zCall_of k_J0_coder_7d493 (Nat.le_of_ble_eq_true rfl) (Nat.le_refl _) (fun _ => ?_)
  show zt l g d M_J0_coder_7d493 0 [.ref (2 + i)] [] s (zKi K)
  refine z_getC l_J0_38 dJ0_coder_7d493_0 rfl ?_
  refine z_if_eq (pt := 13) dJ0_coder_7d493_3 (by decide) rfl (fun c => absurd c (by decide)) (fun _ => ?_)
  refine z_aload_n (i := 0) dJ0_coder_7d493_6 rfl rfl rfl ?_
  refine z_sgetC hi l_J0_15 dJ0_coder_7d493_7 rfl ?_
  refine z_goto (pn := 14) dJ0_coder_7d493_10 (by decide) ?_
  exact z_ret (some (.int (0 : Int32))) (Or.inr (Or.inl ⟨_, _, rfl, rfl, h.1, dJ0_coder_7d493_14⟩)) zN200 ⟨_, rfl, h.2⟩
theorem dJ0_isLatin1_aae02_0 : decode cJ0_isLatin1_aae02 0 = .ok (.getstatic 38, 3) := by decide +kernel
theorem dJ0_isLatin1_aae02_3 : decode cJ0_isLatin1_aae02 3 = .ok (.ifCond .eq 14, 3) := by decide +kernel
theorem dJ0_isLatin1_aae02_6 : decode cJ0_isLatin1_aae02 6 = .ok (.aload_n 0, 1) := by decide +kernel
theorem dJ0_isLatin1_aae02_7 : decode cJ0_isLatin1_aae02 7 = .ok (.getfield 15, 3) := by decide +kernel
theorem dJ0_isLatin1_aae02_10 : decode cJ0_isLatin1_aae02 10 = .ok (.ifCond .ne 7, 3) := by decide +kernel
theorem dJ0_isLatin1_aae02_13 : decode cJ0_isLatin1_aae02 13 = .ok (.iconst 1, 1) := by decide +kernel
theorem dJ0_isLatin1_aae02_14 : decode cJ0_isLatin1_aae02 14 = .ok (.goto 4, 3) := by decide +kernel
theorem dJ0_isLatin1_aae02_17 : decode cJ0_isLatin1_aae02 17 = .ok (.iconst 0, 1) := by decide +kernel
theorem dJ0_isLatin1_aae02_18 : decode cJ0_isLatin1_aae02 18 = .ok (.ireturn, 1) := by decide +kernel
set_option maxHeartbeats 4000000 in
set_option maxRecDepth 100000 in
theorem t_J0_isLatin1_aae02 {l : Launch} {g : zG} {d : Nat} {s : zS} {i : Nat} (hi : i < 20) {K : Bool → zS → Prop} (h : K true s) : zc l g d M_J0_isLatin1_aae02 [.ref (2 + i)] s (zKz K) := by
  refine zCall_of k_J0_isLatin1_aae02 (Nat.le_of_ble_eq_true rfl) (Nat.le_refl _) (fun _ => ?_)
  show zt l g d M_J0_isLatin1_aae02 0 [.ref (2 + i)] [] s (zKz K)
  refine z_getC l_J0_38 dJ0_isLatin1_aae02_0 rfl ?_
  refine z_if_eq (pt := 17) dJ0_isLatin1_aae02_3 (by decide) rfl (fun c => absurd c (by decide)) (fun _ => ?_)
  refine z_aload_n (i := 0) dJ0_isLatin1_aae02_6 rfl rfl rfl ?_
  refine z_sgetC hi l_J0_15 dJ0_isLatin1_aae02_7 rfl ?_
  refine z_if_ne (pt := 17) dJ0_isLatin1_aae02_10 (by decide) rfl (fun c => absurd c (by decide)) (fun _ => ?_)
  refine z_iconst (v := (1 : Int32)) dJ0_isLatin1_aae02_13 (by decide) rfl ?_
  refine z_goto (pn := 18) dJ0_isLatin1_aae02_14 (by decide) ?_
  exact z_ret (some (.int (zb true))) (Or.inr (Or.inl ⟨_, _, rfl, rfl, zb_nar _, dJ0_isLatin1_aae02_18⟩)) zN200 ⟨_, rfl, h⟩
theorem dJ0_length_8abf5_0 : decode cJ0_length_8abf5 0 = .ok (.aload_n 0, 1) := by decide +kernel
theorem dJ0_length_8abf5_1 : decode cJ0_length_8abf5 1 = .ok (.getfield 9, 3) := by decide +kernel
theorem dJ0_length_8abf5_4 : decode cJ0_length_8abf5 4 = .ok (.arraylength, 1) := by decide +kernel
theorem dJ0_length_8abf5_5 : decode cJ0_length_8abf5 5 = .ok (.aload_n 0, 1) := by decide +kernel
theorem dJ0_length_8abf5_6 : decode cJ0_length_8abf5 6 = .ok (.invokevirtual 335, 3) := by decide +kernel
theorem dJ0_length_8abf5_9 : decode cJ0_length_8abf5 9 = .ok (.ishr, 1) := by decide +kernel
theorem dJ0_length_8abf5_10 : decode cJ0_length_8abf5 10 = .ok (.ireturn, 1) := by decide +kernel
set_option maxHeartbeats 4000000 in
set_option maxRecDepth 100000 in
theorem t_J0_length_8abf5 {l : Launch} {g : zG} {d : Nat} {s : zS} {i : Nat} (hi : i < 20) {K : Int32 → zS → Prop} (h : (zc l g d M_J0_coder_7d493 [.ref (2 + i)] s (zKi (fun r2 s1 => s1.2.2.1 = s.2.2.1 ∧ K ((zslen i) >>> (r2 &&& 31)) s1)))) : zc l g (d + 1) M_J0_length_8abf5 [.ref (2 + i)] s (zKi K) := by
  refine zCall_of k_J0_length_8abf5 (Nat.le_of_ble_eq_true rfl) (Nat.le_refl _) (fun _ => ?_)
  show zt l g (d + 1) M_J0_length_8abf5 0 [.ref (2 + i)] [] s (zKi K)
  refine z_aload_n (i := 0) dJ0_length_8abf5_0 rfl rfl rfl ?_
  refine z_sgetV hi l_J0_9 dJ0_length_8abf5_1 rfl ?_
  refine z_salen hi dJ0_length_8abf5_4 rfl ?_
  refine z_aload_n (i := 0) dJ0_length_8abf5_5 rfl rfl rfl ?_
  refine z_callV k_J0_coder_7d493 m_J0_335 (zRec_s hi) rfl h rfl (Nat.le_of_ble_eq_true rfl) dJ0_length_8abf5_6 zy200 rfl ?_
  rintro v s1 ⟨r2, rfl, hRs1, h⟩
  show zt l g (d + 1) M_J0_length_8abf5 9 [.ref (2 + i)] [.int r2, .int (zslen i)] s1 _
  refine z_ishr dJ0_length_8abf5_9 rfl ?_
  exact z_ret (some (.int ((zslen i) >>> (r2 &&& 31)))) (Or.inr (Or.inl ⟨_, _, rfl, rfl, rfl, dJ0_length_8abf5_10⟩)) zN200 ⟨_, rfl, h⟩
theorem dJ1_charAt_3b067_0 : decode cJ1_charAt_3b067 0 = .ok (.iload_n 1, 1) := by decide +kernel
theorem dJ1_charAt_3b067_1 : decode cJ1_charAt_3b067 1 = .ok (.aload_n 0, 1) := by decide +kernel
theorem dJ1_charAt_3b067_2 : decode cJ1_charAt_3b067 2 = .ok (.arraylength, 1) := by decide +kernel
theorem dJ1_charAt_3b067_3 : decode cJ1_charAt_3b067 3 = .ok (.invokestatic 9, 3) := by decide +kernel
theorem dJ1_charAt_3b067_6 : decode cJ1_charAt_3b067 6 = .ok (.aload_n 0, 1) := by decide +kernel
theorem dJ1_charAt_3b067_7 : decode cJ1_charAt_3b067 7 = .ok (.iload_n 1, 1) := by decide +kernel
theorem dJ1_charAt_3b067_8 : decode cJ1_charAt_3b067 8 = .ok (.baload, 1) := by decide +kernel
theorem dJ1_charAt_3b067_9 : decode cJ1_charAt_3b067 9 = .ok (.sipush 255, 3) := by decide +kernel
theorem dJ1_charAt_3b067_12 : decode cJ1_charAt_3b067 12 = .ok (.iand, 1) := by decide +kernel
theorem dJ1_charAt_3b067_13 : decode cJ1_charAt_3b067 13 = .ok (.i2c, 1) := by decide +kernel
theorem dJ1_charAt_3b067_14 : decode cJ1_charAt_3b067 14 = .ok (.ireturn, 1) := by decide +kernel
set_option maxHeartbeats 4000000 in
set_option maxRecDepth 100000 in
theorem t_J1_charAt_3b067 {l : Launch} {g : zG} {d : Nat} {s : zS} {i : Nat} (hi : i < 20) {p1 : Int32} {K : Int32 → zS → Prop} (h : (zc l g d M_J0_checkIndex_df160 [.int p1, .int (zslen i)] s (zKv (fun s1 => s1.2.2.1 = s.2.2.1 ∧ (vp_in p1 (zSl.getD i 0) ∧ (narrow .char (.int ((((zsby i p1.toNatClampNeg) &&& (255 : Int32)).toUInt32 % 65536).toInt32)) = .int ((((zsby i p1.toNatClampNeg) &&& (255 : Int32)).toUInt32 % 65536).toInt32) ∧ K ((((zsby i p1.toNatClampNeg) &&& (255 : Int32)).toUInt32 % 65536).toInt32) s1)))))) : zc l g (d + 1) M_J1_charAt_3b067 [.ref (22 + i), .int p1] s (zKi K) := by
  refine zCall_of k_J1_charAt_3b067 (Nat.le_of_ble_eq_true rfl) (Nat.le_refl _) (fun _ => ?_)
  show zt l g (d + 1) M_J1_charAt_3b067 0 [.ref (22 + i), .int p1] [] s (zKi K)
  refine z_iload_n (i := 1) dJ1_charAt_3b067_0 rfl rfl rfl ?_
  refine z_aload_n (i := 0) dJ1_charAt_3b067_1 rfl rfl rfl ?_
  refine z_salen hi dJ1_charAt_3b067_2 rfl ?_
  refine z_callS (as := [.int p1, .int (zslen i)]) k_J0_checkIndex_df160 m_J1_9 rfl h rfl (Nat.le_of_ble_eq_true rfl) dJ1_charAt_3b067_3 zy200 rfl ?_
  rintro v s1 ⟨rfl, hRs1, h⟩
  show zt l g (d + 1) M_J1_charAt_3b067 6 [.ref (22 + i), .int p1] [] s1 _
  refine z_aload_n (i := 0) dJ1_charAt_3b067_6 rfl rfl rfl ?_
  refine z_iload_n (i := 1) dJ1_charAt_3b067_7 rfl rfl rfl ?_
  obtain ⟨a2, h⟩ := h
  refine z_sbald hi a2 dJ1_charAt_3b067_8 rfl ?_
  refine z_sipush (v := (255 : Int32)) dJ1_charAt_3b067_9 (by decide) rfl ?_
  refine z_iand dJ1_charAt_3b067_12 rfl ?_
  refine z_i2c dJ1_charAt_3b067_13 rfl ?_
  exact z_ret (some (.int ((((zsby i p1.toNatClampNeg) &&& (255 : Int32)).toUInt32 % 65536).toInt32))) (Or.inr (Or.inl ⟨_, _, rfl, rfl, h.1, dJ1_charAt_3b067_14⟩)) zN200 ⟨_, rfl, h.2⟩
theorem dJ0_charAt_5068e_0 : decode cJ0_charAt_5068e 0 = .ok (.aload_n 0, 1) := by decide +kernel
theorem dJ0_charAt_5068e_1 : decode cJ0_charAt_5068e 1 = .ok (.invokevirtual 492, 3) := by decide +kernel
theorem dJ0_charAt_5068e_4 : decode cJ0_charAt_5068e 4 = .ok (.ifCond .eq 12, 3) := by decide +kernel
theorem dJ0_charAt_5068e_7 : decode cJ0_charAt_5068e 7 = .ok (.aload_n 0, 1) := by decide +kernel
theorem dJ0_charAt_5068e_8 : decode cJ0_charAt_5068e 8 = .ok (.getfield 9, 3) := by decide +kernel
theorem dJ0_charAt_5068e_11 : decode cJ0_charAt_5068e 11 = .ok (.iload_n 1, 1) := by decide +kernel
theorem dJ0_charAt_5068e_12 : decode cJ0_charAt_5068e 12 = .ok (.invokestatic 495, 3) := by decide +kernel
theorem dJ0_charAt_5068e_15 : decode cJ0_charAt_5068e 15 = .ok (.ireturn, 1) := by decide +kernel
theorem dJ0_charAt_5068e_16 : decode cJ0_charAt_5068e 16 = .ok (.aload_n 0, 1) := by decide +kernel
theorem dJ0_charAt_5068e_17 : decode cJ0_charAt_5068e 17 = .ok (.getfield 9, 3) := by decide +kernel
theorem dJ0_charAt_5068e_20 : decode cJ0_charAt_5068e 20 = .ok (.iload_n 1, 1) := by decide +kernel
theorem dJ0_charAt_5068e_21 : decode cJ0_charAt_5068e 21 = .ok (.invokestatic 498, 3) := by decide +kernel
theorem dJ0_charAt_5068e_24 : decode cJ0_charAt_5068e 24 = .ok (.ireturn, 1) := by decide +kernel
set_option maxHeartbeats 4000000 in
set_option maxRecDepth 100000 in
theorem t_J0_charAt_5068e {l : Launch} {g : zG} {d : Nat} {s : zS} {i : Nat} (hi : i < 20) {p0 : Int32} {K : Int32 → zS → Prop} (h : (zc l g d M_J0_isLatin1_aae02 [.ref (2 + i)] s (zKz (fun b2 s1 => s1.2.2.1 = s.2.2.1 ∧ (if b2 = true then (zc l g d M_J1_charAt_3b067 [.ref (22 + i), .int p0] s1 (zKi (fun r4 s3 => s3.2.2.1 = s1.2.2.1 ∧ (narrow .char (.int r4) = .int r4 ∧ K r4 s3)))) else False))))) : zc l g (d + 1) M_J0_charAt_5068e [.ref (2 + i), .int p0] s (zKi K) := by
  refine zCall_of k_J0_charAt_5068e (Nat.le_of_ble_eq_true rfl) (Nat.le_refl _) (fun _ => ?_)
  show zt l g (d + 1) M_J0_charAt_5068e 0 [.ref (2 + i), .int p0] [] s (zKi K)
  refine z_aload_n (i := 0) dJ0_charAt_5068e_0 rfl rfl rfl ?_
  refine z_callV k_J0_isLatin1_aae02 m_J0_492 (zRec_s hi) rfl h rfl (Nat.le_of_ble_eq_true rfl) dJ0_charAt_5068e_1 zy200 rfl ?_
  rintro v s1 ⟨b2, rfl, hRs1, h⟩
  show zt l g (d + 1) M_J0_charAt_5068e 4 [.ref (2 + i), .int p0] [.int (zb b2)] s1 _
  refine z_ifb_eq (pt := 16) dJ0_charAt_5068e_4 (by decide) rfl (fun c => ?_) (fun c => ?_)
  · have h := zif h (by rw [c]; exact Bool.false_ne_true)
    refine z_aload_n (i := 0) dJ0_charAt_5068e_16 rfl rfl rfl ?_
    refine z_sgetV hi l_J0_9 dJ0_charAt_5068e_17 rfl ?_
    refine z_iload_n (i := 1) dJ0_charAt_5068e_20 rfl rfl rfl ?_
    exact h.elim
  · have h := zit h c
    refine z_aload_n (i := 0) dJ0_charAt_5068e_7 rfl rfl rfl ?_
    refine z_sgetV hi l_J0_9 dJ0_charAt_5068e_8 rfl ?_
    refine z_iload_n (i := 1) dJ0_charAt_5068e_11 rfl rfl rfl ?_
    refine z_callS (as := [.ref (22 + i), .int p0]) k_J1_charAt_3b067 m_J0_495 rfl h rfl (Nat.le_of_ble_eq_true rfl) dJ0_charAt_5068e_12 zy200 rfl ?_
    rintro v s3 ⟨r4, rfl, hRs3, h⟩
    show zt l g (d + 1) M_J0_charAt_5068e 15 [.ref (2 + i), .int p0] [.int r4] s3 _
    exact z_ret (some (.int r4)) (Or.inr (Or.inl ⟨_, _, rfl, rfl, h.1, dJ0_charAt_5068e_15⟩)) zN200 ⟨_, rfl, h.2⟩
theorem dJ1_canEncode_9a6ad_0 : decode cJ1_canEncode_9a6ad 0 = .ok (.iload_n 0, 1) := by decide +kernel
theorem dJ1_canEncode_9a6ad_1 : decode cJ1_canEncode_9a6ad 1 = .ok (.ifCond .lt 14, 3) := by decide +kernel
theorem dJ1_canEncode_9a6ad_4 : decode cJ1_canEncode_9a6ad 4 = .ok (.iload_n 0, 1) := by decide +kernel
theorem dJ1_canEncode_9a6ad_5 : decode cJ1_canEncode_9a6ad 5 = .ok (.sipush 255, 3) := by decide +kernel
theorem dJ1_canEncode_9a6ad_8 : decode cJ1_canEncode_9a6ad 8 = .ok (.if_icmp .gt 7, 3) := by decide +kernel
theorem dJ1_canEncode_9a6ad_11 : decode cJ1_canEncode_9a6ad 11 = .ok (.iconst 1, 1) := by decide +kernel
theorem dJ1_canEncode_9a6ad_12 : decode cJ1_canEncode_9a6ad 12 = .ok (.goto 4, 3) := by decide +kernel
theorem dJ1_canEncode_9a6ad_15 : decode cJ1_canEncode_9a6ad 15 = .ok (.iconst 0, 1) := by decide +kernel
theorem dJ1_canEncode_9a6ad_16 : decode cJ1_canEncode_9a6ad 16 = .ok (.ireturn, 1) := by decide +kernel
set_option maxHeartbeats 4000000 in
set_option maxRecDepth 100000 in
theorem t_J1_canEncode_9a6ad {l : Launch} {g : zG} {d : Nat} {s : zS} {p0 : Int32} {K : Bool → zS → Prop} (h : (if p0 < 0 then K false s else (if (255 : Int32) < p0 then K false s else K true s))) : zc l g d M_J1_canEncode_9a6ad [.int p0] s (zKz K) := by
  refine zCall_of k_J1_canEncode_9a6ad (Nat.le_of_ble_eq_true rfl) (Nat.le_refl _) (fun _ => ?_)
  show zt l g d M_J1_canEncode_9a6ad 0 [.int p0] [] s (zKz K)
  refine z_iload_n (i := 0) dJ1_canEncode_9a6ad_0 rfl rfl rfl ?_
  refine z_if_lt (pt := 15) dJ1_canEncode_9a6ad_1 (by decide) rfl (fun c => ?_) (fun c => ?_)
  · have h := zit h c
    refine z_iconst (v := (0 : Int32)) dJ1_canEncode_9a6ad_15 (by decide) rfl ?_
    exact z_ret (some (.int (zb false))) (Or.inr (Or.inl ⟨_, _, rfl, rfl, zb_nar _, dJ1_canEncode_9a6ad_16⟩)) zN200 ⟨_, rfl, h⟩
  · have h := zif h c
    refine z_iload_n (i := 0) dJ1_canEncode_9a6ad_4 rfl rfl rfl ?_
    refine z_sipush (v := (255 : Int32)) dJ1_canEncode_9a6ad_5 (by decide) rfl ?_
    refine z_icmp_gt (pt := 15) dJ1_canEncode_9a6ad_8 (by decide) rfl (fun c => ?_) (fun c => ?_)
    · have h := zit h c
      refine z_iconst (v := (0 : Int32)) dJ1_canEncode_9a6ad_15 (by decide) rfl ?_
      exact z_ret (some (.int (zb false))) (Or.inr (Or.inl ⟨_, _, rfl, rfl, zb_nar _, dJ1_canEncode_9a6ad_16⟩)) zN200 ⟨_, rfl, h⟩
    · have h := zif h c
      refine z_iconst (v := (1 : Int32)) dJ1_canEncode_9a6ad_11 (by decide) rfl ?_
      refine z_goto (pn := 16) dJ1_canEncode_9a6ad_12 (by decide) ?_
      exact z_ret (some (.int (zb true))) (Or.inr (Or.inl ⟨_, _, rfl, rfl, zb_nar _, dJ1_canEncode_9a6ad_16⟩)) zN200 ⟨_, rfl, h⟩
theorem dJ1_indexOfChar_4cfef_0 : decode cJ1_indexOfChar_4cfef 0 = .ok (.iload_n 1, 1) := by decide +kernel
theorem dJ1_indexOfChar_4cfef_1 : decode cJ1_indexOfChar_4cfef 1 = .ok (.i2b, 1) := by decide +kernel
theorem dJ1_indexOfChar_4cfef_2 : decode cJ1_indexOfChar_4cfef 2 = .ok (.istore 4, 2) := by decide +kernel
theorem dJ1_indexOfChar_4cfef_4 : decode cJ1_indexOfChar_4cfef 4 = .ok (.iload_n 2, 1) := by decide +kernel
theorem dJ1_indexOfChar_4cfef_5 : decode cJ1_indexOfChar_4cfef 5 = .ok (.istore 5, 2) := by decide +kernel
theorem dJ1_indexOfChar_4cfef_7 : decode cJ1_indexOfChar_4cfef 7 = .ok (.iload 5, 2) := by decide +kernel
theorem dJ1_indexOfChar_4cfef_9 : decode cJ1_indexOfChar_4cfef 9 = .ok (.iload_n 3, 1) := by decide +kernel
theorem dJ1_indexOfChar_4cfef_10 : decode cJ1_indexOfChar_4cfef 10 = .ok (.if_icmp .ge 21, 3) := by decide +kernel
theorem dJ1_indexOfChar_4cfef_13 : decode cJ1_indexOfChar_4cfef 13 = .ok (.aload_n 0, 1) := by decide +kernel
theorem dJ1_indexOfChar_4cfef_14 : decode cJ1_indexOfChar_4cfef 14 = .ok (.iload 5, 2) := by decide +kernel
theorem dJ1_indexOfChar_4cfef_16 : decode cJ1_indexOfChar_4cfef 16 = .ok (.baload, 1) := by decide +kernel
theorem dJ1_indexOfChar_4cfef_17 : decode cJ1_indexOfChar_4cfef 17 = .ok (.iload 4, 2) := by decide +kernel
theorem dJ1_indexOfChar_4cfef_19 : decode cJ1_indexOfChar_4cfef 19 = .ok (.if_icmp .ne 6, 3) := by decide +kernel
theorem dJ1_indexOfChar_4cfef_22 : decode cJ1_indexOfChar_4cfef 22 = .ok (.iload 5, 2) := by decide +kernel
theorem dJ1_indexOfChar_4cfef_24 : decode cJ1_indexOfChar_4cfef 24 = .ok (.ireturn, 1) := by decide +kernel
theorem dJ1_indexOfChar_4cfef_25 : decode cJ1_indexOfChar_4cfef 25 = .ok (.iinc 5 1, 3) := by decide +kernel
theorem dJ1_indexOfChar_4cfef_28 : decode cJ1_indexOfChar_4cfef 28 = .ok (.goto (-21), 3) := by decide +kernel
theorem dJ1_indexOfChar_4cfef_31 : decode cJ1_indexOfChar_4cfef 31 = .ok (.iconst (-1), 1) := by decide +kernel
theorem dJ1_indexOfChar_4cfef_32 : decode cJ1_indexOfChar_4cfef 32 = .ok (.ireturn, 1) := by decide +kernel
set_option maxHeartbeats 4000000 in
set_option maxRecDepth 100000 in
theorem t_J1_indexOfChar_4cfef {l : Launch} {g : zG} {d : Nat} {s : zS} {i : Nat} (hi : i < 20) {p1 : Int32} {p2 : Int32} {p3 : Int32} {K : Int32 → zS → Prop} (h : zt l g d M_J1_indexOfChar_4cfef 7 [.ref (22 + i), zJ, zJ, .int p3, .int p1.toInt8.toInt32, .int p2] [] s (zKi K)) : zc l g d M_J1_indexOfChar_4cfef [.ref (22 + i), .int p1, .int p2, .int p3] s (zKi K) := by
  refine zCall_of k_J1_indexOfChar_4cfef (Nat.le_of_ble_eq_true rfl) (Nat.le_refl _) (fun _ => ?_)
  show zt l g d M_J1_indexOfChar_4cfef 0 [.ref (22 + i), .int p1, .int p2, .int p3, zJ, zJ] [] s (zKi K)
  refine z_iload_n (i := 1) dJ1_indexOfChar_4cfef_0 rfl rfl rfl ?_
  refine z_i2b dJ1_indexOfChar_4cfef_1 rfl ?_
  refine z_istore dJ1_indexOfChar_4cfef_2 (by decide) (zokd rfl) rfl ?_
  show zt l g d M_J1_indexOfChar_4cfef 4 [.ref (22 + i), .int p1, .int p2, .int p3, .int p1.toInt8.toInt32, zJ] [] s _
  refine z_iload_n (i := 2) dJ1_indexOfChar_4cfef_4 rfl rfl rfl ?_
  refine z_istore dJ1_indexOfChar_4cfef_5 (by decide) (zokd rfl) rfl ?_
  show zt l g d M_J1_indexOfChar_4cfef 7 [.ref (22 + i), .int p1, .int p2, .int p3, .int p1.toInt8.toInt32, .int p2] [] s _
  refine z_wk (ls' := [.ref (22 + i), zJ, zJ, .int p3, .int p1.toInt8.toInt32, .int p2]) ⟨Or.inr rfl, Or.inl rfl, Or.inl rfl, Or.inr rfl, Or.inr rfl, Or.inr rfl, trivial⟩ ?_
  exact h
set_option maxHeartbeats 4000000 in
set_option maxRecDepth 100000 in
theorem t_J1_indexOfChar_4cfef_7 {l : Launch} {g : zG} {d : Nat} {s : zS} {i : Nat} (hi : i < 20) {x3 : Int32} {x4 : Int32} {x5 : Int32} {K : Int32 → zS → Prop} (h : (if x3 ≤ x5 then K (-1 : Int32) s else (vp_in x5 (zSl.getD i 0) ∧ (if (zsby i x5.toNatClampNeg) = x4 then K x5 s else zt l g d M_J1_indexOfChar_4cfef 7 [.ref (22 + i), zJ, zJ, .int x3, .int x4, .int (x5 + (1 : Int32))] [] s (zKi K))))) : zt l g d M_J1_indexOfChar_4cfef 7 [.ref (22 + i), zJ, zJ, .int x3, .int x4, .int x5] [] s (zKi K) := by
  refine z_iload dJ1_indexOfChar_4cfef_7 rfl rfl ?_
  refine z_iload_n (i := 3) dJ1_indexOfChar_4cfef_9 rfl rfl rfl ?_
  refine z_icmp_ge (pt := 31) dJ1_indexOfChar_4cfef_10 (by decide) rfl (fun c => ?_) (fun c => ?_)
  · have h := zit h c
    refine z_iconst (v := (-1 : Int32)) dJ1_indexOfChar_4cfef_31 (by decide) rfl ?_
    exact z_ret (some (.int (-1 : Int32))) (Or.inr (Or.inl ⟨_, _, rfl, rfl, rfl, dJ1_indexOfChar_4cfef_32⟩)) zN200 ⟨_, rfl, h⟩
  · have h := zif h c
    refine z_aload_n (i := 0) dJ1_indexOfChar_4cfef_13 rfl rfl rfl ?_
    refine z_iload dJ1_indexOfChar_4cfef_14 rfl rfl ?_
    obtain ⟨a1, h⟩ := h
    refine z_sbald hi a1 dJ1_indexOfChar_4cfef_16 rfl ?_
    refine z_iload dJ1_indexOfChar_4cfef_17 rfl rfl ?_
    refine z_icmp_ne (pt := 25) dJ1_indexOfChar_4cfef_19 (by decide) rfl (fun c => ?_) (fun c => ?_)
    · have h := zif h c
      refine z_iinc (v := x5 + (1 : Int32)) dJ1_indexOfChar_4cfef_25 rfl rfl (by decide) (zokd rfl) rfl ?_
      show zt l g d M_J1_indexOfChar_4cfef 28 [.ref (22 + i), zJ, zJ, .int x3, .int x4, .int (x5 + (1 : Int32))] [] s _
      refine z_goto (pn := 7) dJ1_indexOfChar_4cfef_28 (by decide) ?_
      exact h
    · have h := zit h c
      refine z_iload dJ1_indexOfChar_4cfef_22 rfl rfl ?_
      exact z_ret (some (.int x5)) (Or.inr (Or.inl ⟨_, _, rfl, rfl, rfl, dJ1_indexOfChar_4cfef_24⟩)) zN200 ⟨_, rfl, h⟩
theorem dJ1_indexOf_4cfef_0 : decode cJ1_indexOf_4cfef 0 = .ok (.iload_n 1, 1) := by decide +kernel
theorem dJ1_indexOf_4cfef_1 : decode cJ1_indexOf_4cfef 1 = .ok (.invokestatic 88, 3) := by decide +kernel
theorem dJ1_indexOf_4cfef_4 : decode cJ1_indexOf_4cfef 4 = .ok (.ifCond .ne 5, 3) := by decide +kernel
theorem dJ1_indexOf_4cfef_7 : decode cJ1_indexOf_4cfef 7 = .ok (.iconst (-1), 1) := by decide +kernel
theorem dJ1_indexOf_4cfef_8 : decode cJ1_indexOf_4cfef 8 = .ok (.ireturn, 1) := by decide +kernel
theorem dJ1_indexOf_4cfef_9 : decode cJ1_indexOf_4cfef 9 = .ok (.iload_n 2, 1) := by decide +kernel
theorem dJ1_indexOf_4cfef_10 : decode cJ1_indexOf_4cfef 10 = .ok (.iconst 0, 1) := by decide +kernel
theorem dJ1_indexOf_4cfef_11 : decode cJ1_indexOf_4cfef 11 = .ok (.invokestatic 92, 3) := by decide +kernel
theorem dJ1_indexOf_4cfef_14 : decode cJ1_indexOf_4cfef 14 = .ok (.istore_n 2, 1) := by decide +kernel
theorem dJ1_indexOf_4cfef_15 : decode cJ1_indexOf_4cfef 15 = .ok (.iload_n 3, 1) := by decide +kernel
theorem dJ1_indexOf_4cfef_16 : decode cJ1_indexOf_4cfef 16 = .ok (.aload_n 0, 1) := by decide +kernel
theorem dJ1_indexOf_4cfef_17 : decode cJ1_indexOf_4cfef 17 = .ok (.arraylength, 1) := by decide +kernel
theorem dJ1_indexOf_4cfef_18 : decode cJ1_indexOf_4cfef 18 = .ok (.invokestatic 38, 3) := by decide +kernel
theorem dJ1_indexOf_4cfef_21 : decode cJ1_indexOf_4cfef 21 = .ok (.istore_n 3, 1) := by decide +kernel
theorem dJ1_indexOf_4cfef_22 : decode cJ1_indexOf_4cfef 22 = .ok (.iload_n 2, 1) := by decide +kernel
theorem dJ1_indexOf_4cfef_23 : decode cJ1_indexOf_4cfef 23 = .ok (.iload_n 3, 1) := by decide +kernel
theorem dJ1_indexOf_4cfef_24 : decode cJ1_indexOf_4cfef 24 = .ok (.if_icmp .lt 5, 3) := by decide +kernel
theorem dJ1_indexOf_4cfef_27 : decode cJ1_indexOf_4cfef 27 = .ok (.iconst (-1), 1) := by decide +kernel
theorem dJ1_indexOf_4cfef_28 : decode cJ1_indexOf_4cfef 28 = .ok (.ireturn, 1) := by decide +kernel
theorem dJ1_indexOf_4cfef_29 : decode cJ1_indexOf_4cfef 29 = .ok (.aload_n 0, 1) := by decide +kernel
theorem dJ1_indexOf_4cfef_30 : decode cJ1_indexOf_4cfef 30 = .ok (.iload_n 1, 1) := by decide +kernel
theorem dJ1_indexOf_4cfef_31 : decode cJ1_indexOf_4cfef 31 = .ok (.iload_n 2, 1) := by decide +kernel
theorem dJ1_indexOf_4cfef_32 : decode cJ1_indexOf_4cfef 32 = .ok (.iload_n 3, 1) := by decide +kernel
theorem dJ1_indexOf_4cfef_33 : decode cJ1_indexOf_4cfef 33 = .ok (.invokestatic 95, 3) := by decide +kernel
theorem dJ1_indexOf_4cfef_36 : decode cJ1_indexOf_4cfef 36 = .ok (.ireturn, 1) := by decide +kernel
set_option maxHeartbeats 4000000 in
set_option maxRecDepth 100000 in
theorem t_J1_indexOf_4cfef {l : Launch} {g : zG} {d : Nat} {s : zS} {i : Nat} (hi : i < 20) {p1 : Int32} {p2 : Int32} {p3 : Int32} {K : Int32 → zS → Prop} (h : (zc l g d M_J1_canEncode_9a6ad [.int p1] s (zKz (fun b2 s1 => s1.2.2.1 = s.2.2.1 ∧ (if b2 = true then (if (zmax p2 (0 : Int32)) < (zmin p3 (zslen i)) then (zc l g d M_J1_indexOfChar_4cfef [.ref (22 + i), .int p1, .int (zmax p2 (0 : Int32)), .int (zmin p3 (zslen i))] s1 (zKi (fun r4 s3 => s3.2.2.1 = s1.2.2.1 ∧ K r4 s3))) else K (-1 : Int32) s1) else K (-1 : Int32) s1))))) : zc l g (d + 1) M_J1_indexOf_4cfef [.ref (22 + i), .int p1, .int p2, .int p3] s (zKi K) := by
  refine zCall_of k_J1_indexOf_4cfef (Nat.le_of_ble_eq_true rfl) (Nat.le_refl _) (fun _ => ?_)
  show zt l g (d + 1) M_J1_indexOf_4cfef 0 [.ref (22 + i), .int p1, .int p2, .int p3] [] s (zKi K)
  refine z_iload_n (i := 1) dJ1_indexOf_4cfef_0 rfl rfl rfl ?_
  refine z_callS (as := [.int p1]) k_J1_canEncode_9a6ad m_J1_88 rfl h rfl (Nat.le_of_ble_eq_true rfl) dJ1_indexOf_4cfef_1 zy200 rfl ?_
  rintro v s1 ⟨b2, rfl, hRs1, h⟩
  show zt l g (d + 1) M_J1_indexOf_4cfef 4 [.ref (22 + i), .int p1, .int p2, .int p3] [.int (zb b2)] s1 _
  refine z_ifb_ne (pt := 9) dJ1_indexOf_4cfef_4 (by decide) rfl (fun c => ?_) (fun c => ?_)
  · have h := zit h c
    refine z_iload_n (i := 2) dJ1_indexOf_4cfef_9 rfl rfl rfl ?_
    refine z_iconst (v := (0 : Int32)) dJ1_indexOf_4cfef_10 (by decide) rfl ?_
    refine z_mmax m_J1_92 dJ1_indexOf_4cfef_11 (Nat.le_of_ble_eq_true rfl) rfl ?_
    refine z_istore_n (i := 2) dJ1_indexOf_4cfef_14 rfl (by decide) (zokd rfl) rfl ?_
    show zt l g (d + 1) M_J1_indexOf_4cfef 15 [.ref (22 + i), .int p1, .int (zmax p2 (0 : Int32)), .int p3] [] s1 _
    refine z_iload_n (i := 3) dJ1_indexOf_4cfef_15 rfl rfl rfl ?_
    refine z_aload_n (i := 0) dJ1_indexOf_4cfef_16 rfl rfl rfl ?_
    refine z_salen hi dJ1_indexOf_4cfef_17 rfl ?_
    refine z_mmin m_J1_38 dJ1_indexOf_4cfef_18 (Nat.le_of_ble_eq_true rfl) rfl ?_
    refine z_istore_n (i := 3) dJ1_indexOf_4cfef_21 rfl (by decide) (zokd rfl) rfl ?_
    show zt l g (d + 1) M_J1_indexOf_4cfef 22 [.ref (22 + i), .int p1, .int (zmax p2 (0 : Int32)), .int (zmin p3 (zslen i))] [] s1 _
    refine z_iload_n (i := 2) dJ1_indexOf_4cfef_22 rfl rfl rfl ?_
    refine z_iload_n (i := 3) dJ1_indexOf_4cfef_23 rfl rfl rfl ?_
    refine z_icmp_lt (pt := 29) dJ1_indexOf_4cfef_24 (by decide) rfl (fun c => ?_) (fun c => ?_)
    · have h := zit h c
      refine z_aload_n (i := 0) dJ1_indexOf_4cfef_29 rfl rfl rfl ?_
      refine z_iload_n (i := 1) dJ1_indexOf_4cfef_30 rfl rfl rfl ?_
      refine z_iload_n (i := 2) dJ1_indexOf_4cfef_31 rfl rfl rfl ?_
      refine z_iload_n (i := 3) dJ1_indexOf_4cfef_32 rfl rfl rfl ?_
      refine z_callS (as := [.ref (22 + i), .int p1, .int (zmax p2 (0 : Int32)), .int (zmin p3 (zslen i))]) k_J1_indexOfChar_4cfef m_J1_95 rfl h rfl (Nat.le_of_ble_eq_true rfl) dJ1_indexOf_4cfef_33 zy200 rfl ?_
      rintro v s3 ⟨r4, rfl, hRs3, h⟩
      show zt l g (d + 1) M_J1_indexOf_4cfef 36 [.ref (22 + i), .int p1, .int (zmax p2 (0 : Int32)), .int (zmin p3 (zslen i))] [.int r4] s3 _
      exact z_ret (some (.int r4)) (Or.inr (Or.inl ⟨_, _, rfl, rfl, rfl, dJ1_indexOf_4cfef_36⟩)) zN200 ⟨_, rfl, h⟩
    · have h := zif h c
      refine z_iconst (v := (-1 : Int32)) dJ1_indexOf_4cfef_27 (by decide) rfl ?_
      exact z_ret (some (.int (-1 : Int32))) (Or.inr (Or.inl ⟨_, _, rfl, rfl, rfl, dJ1_indexOf_4cfef_28⟩)) zN200 ⟨_, rfl, h⟩
  · have h := zif h (by rw [c]; exact Bool.false_ne_true)
    refine z_iconst (v := (-1 : Int32)) dJ1_indexOf_4cfef_7 (by decide) rfl ?_
    exact z_ret (some (.int (-1 : Int32))) (Or.inr (Or.inl ⟨_, _, rfl, rfl, rfl, dJ1_indexOf_4cfef_8⟩)) zN200 ⟨_, rfl, h⟩
theorem dJ0_indexOf_7cf53_0 : decode cJ0_indexOf_7cf53 0 = .ok (.aload_n 0, 1) := by decide +kernel
theorem dJ0_indexOf_7cf53_1 : decode cJ0_indexOf_7cf53 1 = .ok (.invokevirtual 492, 3) := by decide +kernel
theorem dJ0_indexOf_7cf53_4 : decode cJ0_indexOf_7cf53 4 = .ok (.ifCond .eq 19, 3) := by decide +kernel
theorem dJ0_indexOf_7cf53_7 : decode cJ0_indexOf_7cf53 7 = .ok (.aload_n 0, 1) := by decide +kernel
theorem dJ0_indexOf_7cf53_8 : decode cJ0_indexOf_7cf53 8 = .ok (.getfield 9, 3) := by decide +kernel
theorem dJ0_indexOf_7cf53_11 : decode cJ0_indexOf_7cf53 11 = .ok (.iload_n 1, 1) := by decide +kernel
theorem dJ0_indexOf_7cf53_12 : decode cJ0_indexOf_7cf53 12 = .ok (.iload_n 2, 1) := by decide +kernel
theorem dJ0_indexOf_7cf53_13 : decode cJ0_indexOf_7cf53 13 = .ok (.aload_n 0, 1) := by decide +kernel
theorem dJ0_indexOf_7cf53_14 : decode cJ0_indexOf_7cf53 14 = .ok (.invokevirtual 505, 3) := by decide +kernel
theorem dJ0_indexOf_7cf53_17 : decode cJ0_indexOf_7cf53 17 = .ok (.invokestatic 637, 3) := by decide +kernel
theorem dJ0_indexOf_7cf53_20 : decode cJ0_indexOf_7cf53 20 = .ok (.goto 16, 3) := by decide +kernel
theorem dJ0_indexOf_7cf53_23 : decode cJ0_indexOf_7cf53 23 = .ok (.aload_n 0, 1) := by decide +kernel
theorem dJ0_indexOf_7cf53_24 : decode cJ0_indexOf_7cf53 24 = .ok (.getfield 9, 3) := by decide +kernel
theorem dJ0_indexOf_7cf53_27 : decode cJ0_indexOf_7cf53 27 = .ok (.iload_n 1, 1) := by decide +kernel
theorem dJ0_indexOf_7cf53_28 : decode cJ0_indexOf_7cf53 28 = .ok (.iload_n 2, 1) := by decide +kernel
theorem dJ0_indexOf_7cf53_29 : decode cJ0_indexOf_7cf53 29 = .ok (.aload_n 0, 1) := by decide +kernel
theorem dJ0_indexOf_7cf53_30 : decode cJ0_indexOf_7cf53 30 = .ok (.invokevirtual 505, 3) := by decide +kernel
theorem dJ0_indexOf_7cf53_33 : decode cJ0_indexOf_7cf53 33 = .ok (.invokestatic 640, 3) := by decide +kernel
theorem dJ0_indexOf_7cf53_36 : decode cJ0_indexOf_7cf53 36 = .ok (.ireturn, 1) := by decide +kernel
set_option maxHeartbeats 4000000 in
set_option maxRecDepth 100000 in
theorem t_J0_indexOf_7cf53 {l : Launch} {g : zG} {d : Nat} {s : zS} {i : Nat} (hi : i < 20) {p0 : Int32} {p1 : Int32} {K : Int32 → zS → Prop} (h : (zc l g d M_J0_isLatin1_aae02 [.ref (2 + i)] s (zKz (fun b2 s1 => s1.2.2.1 = s.2.2.1 ∧ (if b2 = true then (zc l g d M_J0_length_8abf5 [.ref (2 + i)] s1 (zKi (fun r6 s5 => s5.2.2.1 = s1.2.2.1 ∧ (zc l g d M_J1_indexOf_4cfef [.ref (22 + i), .int p0, .int p1, .int r6] s5 (zKi (fun r8 s7 => s7.2.2.1 = s5.2.2.1 ∧ K r8 s7)))))) else (zc l g d M_J0_length_8abf5 [.ref (2 + i)] s1 (zKi (fun r4 s3 => s3.2.2.1 = s1.2.2.1 ∧ False)))))))) : zc l g (d + 1) M_J0_indexOf_7cf53 [.ref (2 + i), .int p0, .int p1] s (zKi K) := by
  refine zCall_of k_J0_indexOf_7cf53 (Nat.le_of_ble_eq_true rfl) (Nat.le_refl _) (fun _ => ?_)
  show zt l g (d + 1) M_J0_indexOf_7cf53 0 [.ref (2 + i), .int p0, .int p1] [] s (zKi K)
  refine z_aload_n (i := 0) dJ0_indexOf_7cf53_0 rfl rfl rfl ?_
  refine z_callV k_J0_isLatin1_aae02 m_J0_492 (zRec_s hi) rfl h rfl (Nat.le_of_ble_eq_true rfl) dJ0_indexOf_7cf53_1 zy200 rfl ?_
  rintro v s1 ⟨b2, rfl, hRs1, h⟩
  show zt l g (d + 1) M_J0_indexOf_7cf53 4 [.ref (2 + i), .int p0, .int p1] [.int (zb b2)] s1 _
  refine z_ifb_eq (pt := 23) dJ0_indexOf_7cf53_4 (by decide) rfl (fun c => ?_) (fun c => ?_)
  · have h := zif h (by rw [c]; exact Bool.false_ne_true)
    refine z_aload_n (i := 0) dJ0_indexOf_7cf53_23 rfl rfl rfl ?_
    refine z_sgetV hi l_J0_9 dJ0_indexOf_7cf53_24 rfl ?_
    refine z_iload_n (i := 1) dJ0_indexOf_7cf53_27 rfl rfl rfl ?_
    refine z_iload_n (i := 2) dJ0_indexOf_7cf53_28 rfl rfl rfl ?_
    refine z_aload_n (i := 0) dJ0_indexOf_7cf53_29 rfl rfl rfl ?_
    refine z_callV k_J0_length_8abf5 m_J0_505 (zRec_s hi) rfl h rfl (Nat.le_of_ble_eq_true rfl) dJ0_indexOf_7cf53_30 zy200 rfl ?_
    rintro v s3 ⟨r4, rfl, hRs3, h⟩
    show zt l g (d + 1) M_J0_indexOf_7cf53 33 [.ref (2 + i), .int p0, .int p1] [.int r4, .int p1, .int p0, .ref (22 + i)] s3 _
    exact h.elim
  · have h := zit h c
    refine z_aload_n (i := 0) dJ0_indexOf_7cf53_7 rfl rfl rfl ?_
    refine z_sgetV hi l_J0_9 dJ0_indexOf_7cf53_8 rfl ?_
    refine z_iload_n (i := 1) dJ0_indexOf_7cf53_11 rfl rfl rfl ?_
    refine z_iload_n (i := 2) dJ0_indexOf_7cf53_12 rfl rfl rfl ?_
    refine z_aload_n (i := 0) dJ0_indexOf_7cf53_13 rfl rfl rfl ?_
    refine z_callV k_J0_length_8abf5 m_J0_505 (zRec_s hi) rfl h rfl (Nat.le_of_ble_eq_true rfl) dJ0_indexOf_7cf53_14 zy200 rfl ?_
    rintro v s5 ⟨r6, rfl, hRs5, h⟩
    show zt l g (d + 1) M_J0_indexOf_7cf53 17 [.ref (2 + i), .int p0, .int p1] [.int r6, .int p1, .int p0, .ref (22 + i)] s5 _
    refine z_callS (as := [.ref (22 + i), .int p0, .int p1, .int r6]) k_J1_indexOf_4cfef m_J0_637 rfl h rfl (Nat.le_of_ble_eq_true rfl) dJ0_indexOf_7cf53_17 zy200 rfl ?_
    rintro v s7 ⟨r8, rfl, hRs7, h⟩
    show zt l g (d + 1) M_J0_indexOf_7cf53 20 [.ref (2 + i), .int p0, .int p1] [.int r8] s7 _
    refine z_goto (pn := 36) dJ0_indexOf_7cf53_20 (by decide) ?_
    exact z_ret (some (.int r8)) (Or.inr (Or.inl ⟨_, _, rfl, rfl, rfl, dJ0_indexOf_7cf53_36⟩)) zN200 ⟨_, rfl, h⟩
theorem dJ0_indexOf_0f7a4_0 : decode cJ0_indexOf_0f7a4 0 = .ok (.aload_n 0, 1) := by decide +kernel
theorem dJ0_indexOf_0f7a4_1 : decode cJ0_indexOf_0f7a4 1 = .ok (.iload_n 1, 1) := by decide +kernel
theorem dJ0_indexOf_0f7a4_2 : decode cJ0_indexOf_0f7a4 2 = .ok (.iconst 0, 1) := by decide +kernel
theorem dJ0_indexOf_0f7a4_3 : decode cJ0_indexOf_0f7a4 3 = .ok (.invokevirtual 633, 3) := by decide +kernel
theorem dJ0_indexOf_0f7a4_6 : decode cJ0_indexOf_0f7a4 6 = .ok (.ireturn, 1) := by decide +kernel
set_option maxHeartbeats 4000000 in
set_option maxRecDepth 100000 in
theorem t_J0_indexOf_0f7a4 {l : Launch} {g : zG} {d : Nat} {s : zS} {i : Nat} (hi : i < 20) {p0 : Int32} {K : Int32 → zS → Prop} (h : (zc l g d M_J0_indexOf_7cf53 [.ref (2 + i), .int p0, .int (0 : Int32)] s (zKi (fun r2 s1 => s1.2.2.1 = s.2.2.1 ∧ K r2 s1)))) : zc l g (d + 1) M_J0_indexOf_0f7a4 [.ref (2 + i), .int p0] s (zKi K) := by
  refine zCall_of k_J0_indexOf_0f7a4 (Nat.le_of_ble_eq_true rfl) (Nat.le_refl _) (fun _ => ?_)
  show zt l g (d + 1) M_J0_indexOf_0f7a4 0 [.ref (2 + i), .int p0] [] s (zKi K)
  refine z_aload_n (i := 0) dJ0_indexOf_0f7a4_0 rfl rfl rfl ?_
  refine z_iload_n (i := 1) dJ0_indexOf_0f7a4_1 rfl rfl rfl ?_
  refine z_iconst (v := (0 : Int32)) dJ0_indexOf_0f7a4_2 (by decide) rfl ?_
  refine z_callV k_J0_indexOf_7cf53 m_J0_633 (zRec_s hi) rfl h rfl (Nat.le_of_ble_eq_true rfl) dJ0_indexOf_0f7a4_3 zy200 rfl ?_
  rintro v s1 ⟨r2, rfl, hRs1, h⟩
  show zt l g (d + 1) M_J0_indexOf_0f7a4 6 [.ref (2 + i), .int p0] [.int r2] s1 _
  exact z_ret (some (.int r2)) (Or.inr (Or.inl ⟨_, _, rfl, rfl, rfl, dJ0_indexOf_0f7a4_6⟩)) zN200 ⟨_, rfl, h⟩
theorem dJ0_checkIndex_df160_0 : decode cJ0_checkIndex_df160 0 = .ok (.iload_n 0, 1) := by decide +kernel
theorem dJ0_checkIndex_df160_1 : decode cJ0_checkIndex_df160 1 = .ok (.iload_n 1, 1) := by decide +kernel
theorem dJ0_checkIndex_df160_2 : decode cJ0_checkIndex_df160 2 = .ok (.getstatic 1053, 3) := by decide +kernel
theorem dJ0_checkIndex_df160_5 : decode cJ0_checkIndex_df160 5 = .ok (.invokestatic 1059, 3) := by decide +kernel
theorem dJ0_checkIndex_df160_8 : decode cJ0_checkIndex_df160 8 = .ok (.pop, 1) := by decide +kernel
theorem dJ0_checkIndex_df160_9 : decode cJ0_checkIndex_df160 9 = .ok (.return_, 1) := by decide +kernel
theorem dJ3_checkIndex_8e157_0 : decode cJ3_checkIndex_8e157 0 = .ok (.iload_n 0, 1) := by decide +kernel
theorem dJ3_checkIndex_8e157_1 : decode cJ3_checkIndex_8e157 1 = .ok (.ifCond .lt 8, 3) := by decide +kernel
theorem dJ3_checkIndex_8e157_4 : decode cJ3_checkIndex_8e157 4 = .ok (.iload_n 0, 1) := by decide +kernel
theorem dJ3_checkIndex_8e157_5 : decode cJ3_checkIndex_8e157 5 = .ok (.iload_n 1, 1) := by decide +kernel
theorem dJ3_checkIndex_8e157_6 : decode cJ3_checkIndex_8e157 6 = .ok (.if_icmp .lt 10, 3) := by decide +kernel
theorem dJ3_checkIndex_8e157_9 : decode cJ3_checkIndex_8e157 9 = .ok (.aload_n 2, 1) := by decide +kernel
theorem dJ3_checkIndex_8e157_10 : decode cJ3_checkIndex_8e157 10 = .ok (.iload_n 0, 1) := by decide +kernel
theorem dJ3_checkIndex_8e157_11 : decode cJ3_checkIndex_8e157 11 = .ok (.iload_n 1, 1) := by decide +kernel
theorem dJ3_checkIndex_8e157_12 : decode cJ3_checkIndex_8e157 12 = .ok (.invokestatic 95, 3) := by decide +kernel
theorem dJ3_checkIndex_8e157_15 : decode cJ3_checkIndex_8e157 15 = .ok (.athrow, 1) := by decide +kernel
theorem dJ3_checkIndex_8e157_16 : decode cJ3_checkIndex_8e157 16 = .ok (.iload_n 0, 1) := by decide +kernel
theorem dJ3_checkIndex_8e157_17 : decode cJ3_checkIndex_8e157 17 = .ok (.ireturn, 1) := by decide +kernel
theorem t_J3_checkIndex {l : Launch} {g : zG} {d : Nat} {s : zS} {v : Value} (hv : v = .null ∨ v = .ref 63) {x n : Int32} (h0 : 0 ≤ x) (h1 : x < n) {K : Int32 → zS → Prop} (h : K x s) : zc l g d M_J3_checkIndex_8e157 [.int x, .int n, v] s (zKi K) := by
  rcases hv with rfl | rfl
  · refine zCall_of k_J3_checkIndex_8e157 (Nat.le_of_ble_eq_true rfl) (Nat.le_refl _) (fun _ => ?_)
    show zt l g d M_J3_checkIndex_8e157 0 [.int x, .int n, .null] [] s (zKi K)
    refine z_iload_n (i := 0) dJ3_checkIndex_8e157_0 rfl rfl rfl ?_
    refine z_if_lt (pt := 9) dJ3_checkIndex_8e157_1 (by decide) rfl (fun c => absurd c (Int32.not_lt.mpr h0)) (fun _ => ?_)
    refine z_iload_n (i := 0) dJ3_checkIndex_8e157_4 rfl rfl rfl ?_
    refine z_iload_n (i := 1) dJ3_checkIndex_8e157_5 rfl rfl rfl ?_
    refine z_icmp_lt (pt := 16) dJ3_checkIndex_8e157_6 (by decide) rfl (fun _ => ?_) (fun c => absurd h1 c)
    refine z_iload_n (i := 0) dJ3_checkIndex_8e157_16 rfl rfl rfl ?_
    exact z_ret (some (.int x)) (Or.inr (Or.inl ⟨_, _, rfl, rfl, rfl, dJ3_checkIndex_8e157_17⟩)) zN200 ⟨_, rfl, h⟩
  · refine zCall_of k_J3_checkIndex_8e157 (Nat.le_of_ble_eq_true rfl) (Nat.le_refl _) (fun _ => ?_)
    show zt l g d M_J3_checkIndex_8e157 0 [.int x, .int n, .ref 63] [] s (zKi K)
    refine z_iload_n (i := 0) dJ3_checkIndex_8e157_0 rfl rfl rfl ?_
    refine z_if_lt (pt := 9) dJ3_checkIndex_8e157_1 (by decide) rfl (fun c => absurd c (Int32.not_lt.mpr h0)) (fun _ => ?_)
    refine z_iload_n (i := 0) dJ3_checkIndex_8e157_4 rfl rfl rfl ?_
    refine z_iload_n (i := 1) dJ3_checkIndex_8e157_5 rfl rfl rfl ?_
    refine z_icmp_lt (pt := 16) dJ3_checkIndex_8e157_6 (by decide) rfl (fun _ => ?_) (fun c => absurd h1 c)
    refine z_iload_n (i := 0) dJ3_checkIndex_8e157_16 rfl rfl rfl ?_
    exact z_ret (some (.int x)) (Or.inr (Or.inl ⟨_, _, rfl, rfl, rfl, dJ3_checkIndex_8e157_17⟩)) zN200 ⟨_, rfl, h⟩
theorem t_J0_checkIndex {l : Launch} {g : zG} {d : Nat} {s : zS} {x n : Int32} (h0 : 0 ≤ x) (h1 : x < n) {K : zS → Prop} (h : K s) : zc l g (d + 1) M_J0_checkIndex_df160 [.int x, .int n] s (zKv K) := by
  refine zCall_of k_J0_checkIndex_df160 (Nat.le_of_ble_eq_true rfl) (Nat.le_refl _) (fun _ => ?_)
  show zt l g (d + 1) M_J0_checkIndex_df160 0 [.int x, .int n] [] s (zKv K)
  refine z_iload_n (i := 0) dJ0_checkIndex_df160_0 rfl rfl rfl ?_
  refine z_iload_n (i := 1) dJ0_checkIndex_df160_1 rfl rfl rfl ?_
  refine z_getF l_J0_1053 dJ0_checkIndex_df160_2 rfl (fun v hv => ?_)
  refine z_callS (as := [.int x, .int n, v]) k_J3_checkIndex_8e157 m_J0_1059 rfl (t_J3_checkIndex hv h0 h1 (K := fun r s1 => r = x ∧ s1 = s) ⟨rfl, rfl⟩) rfl (Nat.le_of_ble_eq_true rfl) dJ0_checkIndex_df160_5 zy200 rfl ?_
  rintro v s ⟨r, rfl, rfl, rfl⟩
  refine z_pop dJ0_checkIndex_df160_8 rfl rfl ?_
  exact z_ret none (Or.inl ⟨rfl, rfl, dJ0_checkIndex_df160_9⟩) zN200 ⟨rfl, h⟩
theorem zSl_lt : ∀ i, i < 20 → zSl.getD i 0 < 2 ^ 31 ∧ 0 < zSl.getD i 0 := by decide
theorem vin_iff {x : Int32} {n : Nat} (hn : n < 2 ^ 31) : vp_in x n ↔ 0 ≤ x ∧ x < Int32.ofNat n := by
  unfold vp_in
  rw [not_or, Nat.not_le, Int32.not_lt]
  constructor
  · rintro ⟨h1, h2⟩
    refine ⟨h1, ?_⟩
    obtain ⟨j, hj, rfl⟩ := nI_of (Int32.not_lt.mpr h1)
    rw [nI_clamp hj] at h2
    exact nI_lt h2 hn
  · rintro ⟨h1, h2⟩
    refine ⟨h1, ?_⟩
    obtain ⟨j, hj, rfl⟩ := nI_of (Int32.not_lt.mpr h1)
    rw [nI_clamp hj]
    exact (nI_ltI hj hn).mp h2
def zsch (i k : Nat) : Int32 := zsby i k &&& 255
theorem s_slen {l : Launch} {g : zG} {d : Nat} {s : zS} {i : Nat} (hi : i < 20) {K : Int32 → zS → Prop} (h : K (zslen i) s) : zc l g (d + 1) M_J0_length_8abf5 [.ref (2 + i)] s (zKi K) := by
  refine t_J0_length_8abf5 hi (t_J0_coder_7d493 hi ⟨rfl, rfl, ?_⟩)
  have e : zslen i >>> ((0 : Int32) &&& 31) = zslen i := sc_shr0 (zSl_lt i hi).1
  rw [e]
  exact h
theorem s_schar {l : Launch} {g : zG} {d : Nat} {s : zS} {i : Nat} (hi : i < 20) {x : Int32} (hin : vp_in x (zSl.getD i 0)) {K : Int32 → zS → Prop} (h : K (zsch i x.toNatClampNeg) s) : zc l g (d + 4) M_J0_charAt_5068e [.ref (2 + i), .int x] s (zKi K) := by
  have e2 : (((zsby i x.toNatClampNeg) &&& (255 : Int32)).toUInt32 % 65536).toInt32 = zsch i x.toNatClampNeg := sc_c2 _
  obtain ⟨h0, h1⟩ := (vin_iff (zSl_lt i hi).1).mp hin
  refine t_J0_charAt_5068e hi (t_J0_isLatin1_aae02 hi ⟨rfl, ?_⟩)
  rw [if_pos rfl]
  refine t_J1_charAt_3b067 hi (t_J0_checkIndex h0 h1 ⟨rfl, hin, ?_⟩)
  rw [e2]
  exact ⟨sc_nar _, rfl, sc_nar _, h⟩
def zsxF (i : Nat) (b : Int32) : Nat → Nat → Int32
  | 0, _ => -1
  | n + 1, k => if zsby i k = b then nI k else zsxF i b n (k + 1)
def zsix (i : Nat) (c : Int32) : Int32 := if c < 0 then -1 else if 255 < c then -1 else zsxF i c.toInt8.toInt32 (zSl.getD i 0) 0
theorem s_sixL {l : Launch} {g : zG} {d : Nat} {s : zS} {i : Nat} (hi : i < 20) {b : Int32} {K : Int32 → zS → Prop} : ∀ n k : Nat, k + n = zSl.getD i 0 → K (zsxF i b n k) s → zt l g d M_J1_indexOfChar_4cfef 7 [.ref (22 + i), zJ, zJ, .int (zslen i), .int b, .int (nI k)] [] s (zKi K) := by
  intro n
  have hL := (zSl_lt i hi).1
  induction n with
  | zero =>
    intro k hk h
    refine t_J1_indexOfChar_4cfef_7 hi ?_
    rw [if_pos (show zslen i ≤ nI k from nI_le (by omega) (by omega))]
    exact h
  | succ n ih =>
    intro k hk h
    refine t_J1_indexOfChar_4cfef_7 hi ?_
    rw [if_neg (show ¬ zslen i ≤ nI k from nI_ge (by omega) hL)]
    refine ⟨vp_in_nI (by omega) hL, ?_⟩
    rw [nI_clamp (by omega)]
    rw [zsxF] at h
    by_cases hc : zsby i k = b
    · rw [if_pos hc] at h ⊢
      exact h
    · rw [if_neg hc] at h ⊢
      rw [← nI_succ]
      exact ih (k + 1) (by omega) h
theorem s_sidx {l : Launch} {g : zG} {d : Nat} {s : zS} {i : Nat} (hi : i < 20) {c : Int32} {K : Int32 → zS → Prop} (h : K (zsix i c) s) : zc l g (d + 4) M_J0_indexOf_0f7a4 [.ref (2 + i), .int c] s (zKi K) := by
  obtain ⟨hL, h0⟩ := zSl_lt i hi
  refine t_J0_indexOf_0f7a4 hi (t_J0_indexOf_7cf53 hi (t_J0_isLatin1_aae02 hi ⟨rfl, ?_⟩))
  rw [if_pos rfl]
  refine s_slen hi ⟨rfl, t_J1_indexOf_4cfef hi (t_J1_canEncode_9a6ad ?_)⟩
  unfold zsix at h
  by_cases c1 : c < 0
  · rw [if_pos c1] at h ⊢
    refine ⟨rfl, ?_⟩
    rw [if_neg (by decide)]
    exact ⟨rfl, rfl, h⟩
  rw [if_neg c1] at h ⊢
  by_cases c2 : 255 < c
  · rw [if_pos c2] at h ⊢
    refine ⟨rfl, ?_⟩
    rw [if_neg (by decide)]
    exact ⟨rfl, rfl, h⟩
  rw [if_neg c2] at h ⊢
  refine ⟨rfl, ?_⟩
  rw [if_pos rfl]
  have e1 : zmax (0 : Int32) 0 = 0 := by decide
  have e2 : zmin (zslen i) (zslen i) = zslen i := by unfold zmin; split <;> rfl
  rw [e1, e2, if_pos (show (0 : Int32) < zslen i from nI_lt (a := 0) h0 hL)]
  refine t_J1_indexOfChar_4cfef hi ?_
  exact s_sixL hi (zSl.getD i 0) 0 (by omega) ⟨rfl, rfl, rfl, h⟩
section ZHS
variable {l : Launch} {g : zG} {d : Nat} {M : zM} {pc pn : Nat} {ls st : List Value} {σ : zS} {K : Option Value → zS → Prop}
theorem z_slen {i j : Nat} (hl : zLkV M.1.cls j M_J0_length_8abf5) (hi : i < 20) (hd : decode M.2.1 pc = .ok (.invokevirtual j, 3)) (hst : (st.map fun v => v.category).sum ≤ 8) (hn : pc + 3 = pn) (k : zt l g (d + 2) M pn ls (.int (zslen i) :: st) σ K) : zt l g (d + 2) M pc ls (.ref (2 + i) :: st) σ K :=
  z_callV (as := []) (K' := zKi (fun r s => r = zslen i ∧ s = σ)) k_J0_length_8abf5 hl (zRec_s hi) rfl (s_slen hi ⟨rfl, rfl⟩) rfl hst hd zy200 hn (by rintro v s ⟨r, rfl, rfl, rfl⟩; exact k)
theorem z_schar {i j : Nat} {x : Int32} (hl : zLkV M.1.cls j M_J0_charAt_5068e) (hi : i < 20) (hin : vp_in x (zSl.getD i 0)) (hd : decode M.2.1 pc = .ok (.invokevirtual j, 3)) (hst : (st.map fun v => v.category).sum ≤ 8) (hn : pc + 3 = pn) (k : zt l g (d + 5) M pn ls (.int (zsch i x.toNatClampNeg) :: st) σ K) : zt l g (d + 5) M pc ls (.int x :: .ref (2 + i) :: st) σ K :=
  z_callV (as := [.int x]) (K' := zKi (fun r s => r = zsch i x.toNatClampNeg ∧ s = σ)) k_J0_charAt_5068e hl (zRec_s hi) rfl (s_schar hi hin ⟨rfl, rfl⟩) rfl hst hd zy200 hn (by rintro v s ⟨r, rfl, rfl, rfl⟩; exact k)
theorem z_sidx {i j : Nat} {c : Int32} (hl : zLkV M.1.cls j M_J0_indexOf_0f7a4) (hi : i < 20) (hd : decode M.2.1 pc = .ok (.invokevirtual j, 3)) (hst : (st.map fun v => v.category).sum ≤ 8) (hn : pc + 3 = pn) (k : zt l g (d + 5) M pn ls (.int (zsix i c) :: st) σ K) : zt l g (d + 5) M pc ls (.int c :: .ref (2 + i) :: st) σ K :=
  z_callV (as := [.int c]) (K' := zKi (fun r s => r = zsix i c ∧ s = σ)) k_J0_indexOf_0f7a4 hl (zRec_s hi) rfl (s_sidx hi ⟨rfl, rfl⟩) rfl hst hd zy200 hn (by rintro v s ⟨r, rfl, rfl, rfl⟩; exact k)
end ZHS
