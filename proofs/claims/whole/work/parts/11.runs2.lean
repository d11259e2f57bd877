theorem dX2_append_0 : decode cX2_append 0 = .ok (.bipush 24, 2) := by decide +kernel
theorem dX2_append_2 : decode cX2_append 2 = .ok (.istore_n 2, 1) := by decide +kernel
theorem dX2_append_3 : decode cX2_append 3 = .ok (.iload_n 2, 1) := by decide +kernel
theorem dX2_append_4 : decode cX2_append 4 = .ok (.ifCond .lt 45, 3) := by decide +kernel
theorem dX2_append_7 : decode cX2_append 7 = .ok (.aload_n 0, 1) := by decide +kernel
theorem dX2_append_8 : decode cX2_append 8 = .ok (.getfield 21, 3) := by decide +kernel
theorem dX2_append_11 : decode cX2_append 11 = .ok (.sipush 400, 3) := by decide +kernel
theorem dX2_append_14 : decode cX2_append 14 = .ok (.if_icmp .ge 29, 3) := by decide +kernel
theorem dX2_append_17 : decode cX2_append 17 = .ok (.aload_n 0, 1) := by decide +kernel
theorem dX2_append_18 : decode cX2_append 18 = .ok (.getfield 9, 3) := by decide +kernel
theorem dX2_append_21 : decode cX2_append 21 = .ok (.aload_n 0, 1) := by decide +kernel
theorem dX2_append_22 : decode cX2_append 22 = .ok (.getfield 21, 3) := by decide +kernel
theorem dX2_append_25 : decode cX2_append 25 = .ok (.iload_n 1, 1) := by decide +kernel
theorem dX2_append_26 : decode cX2_append 26 = .ok (.iload_n 2, 1) := by decide +kernel
theorem dX2_append_27 : decode cX2_append 27 = .ok (.ishr, 1) := by decide +kernel
theorem dX2_append_28 : decode cX2_append 28 = .ok (.sipush 255, 3) := by decide +kernel
theorem dX2_append_31 : decode cX2_append 31 = .ok (.iand, 1) := by decide +kernel
theorem dX2_append_32 : decode cX2_append 32 = .ok (.iastore, 1) := by decide +kernel
theorem dX2_append_33 : decode cX2_append 33 = .ok (.aload_n 0, 1) := by decide +kernel
theorem dX2_append_34 : decode cX2_append 34 = .ok (.dup, 1) := by decide +kernel
theorem dX2_append_35 : decode cX2_append 35 = .ok (.getfield 21, 3) := by decide +kernel
theorem dX2_append_38 : decode cX2_append 38 = .ok (.iconst 1, 1) := by decide +kernel
theorem dX2_append_39 : decode cX2_append 39 = .ok (.iadd, 1) := by decide +kernel
theorem dX2_append_40 : decode cX2_append 40 = .ok (.putfield 21, 3) := by decide +kernel
theorem dX2_append_43 : decode cX2_append 43 = .ok (.iinc 2 (-8), 3) := by decide +kernel
theorem dX2_append_46 : decode cX2_append 46 = .ok (.goto (-43), 3) := by decide +kernel
theorem dX2_append_49 : decode cX2_append 49 = .ok (.return_, 1) := by decide +kernel
set_option maxHeartbeats 4000000 in
set_option maxRecDepth 100000 in
theorem t_X2_append {l : Launch} {g : zG} {d : Nat} {s : zS} (hR : zRok s) {p0 : Int32} {K : zS → Prop} (h : zt l g d M_X2_append 3 [.ref 75, .int p0, .int (24 : Int32)] [] s (zKv K)) : zc l g d M_X2_append [.ref 75, .int p0] s (zKv K) := by
  refine zCall_of k_X2_append (Nat.le_of_ble_eq_true rfl) (Nat.le_refl _) (fun _ => ?_)
  show zt l g d M_X2_append 0 [.ref 75, .int p0, zJ] [] s (zKv K)
  refine z_bipush (v := (24 : Int32)) dX2_append_0 (by decide) rfl ?_
  refine z_istore_n (i := 2) dX2_append_2 rfl (by decide) (zokd rfl) rfl ?_
  show zt l g d M_X2_append 3 [.ref 75, .int p0, .int (24 : Int32)] [] s _
  exact h
set_option maxHeartbeats 4000000 in
set_option maxRecDepth 100000 in
theorem t_X2_append_3 {l : Launch} {g : zG} {d : Nat} {s : zS} (hR : zRok s) {x1 : Int32} {x2 : Int32} {K : zS → Prop} (h : (if x2 < 0 then K s else (if (400 : Int32) ≤ (s.1 75 1) then zt l g d M_X2_append 3 [.ref 75, .int x1, .int (x2 - (8 : Int32))] [] s (zKv K) else (vp_in (s.1 75 1) 400 ∧ zt l g d M_X2_append 3 [.ref 75, .int x1, .int (x2 - (8 : Int32))] [] (zI (zI s 76 ((s.1 75 1).toNatClampNeg) ((x1 >>> (x2 &&& 31)) &&& (255 : Int32))) 75 1 ((s.1 75 1) + (1 : Int32))) (zKv K))))) : zt l g d M_X2_append 3 [.ref 75, .int x1, .int x2] [] s (zKv K) := by
  refine z_iload_n (i := 2) dX2_append_3 rfl rfl rfl ?_
  refine z_if_lt (pt := 49) dX2_append_4 (by decide) rfl (fun c => ?_) (fun c => ?_)
  · have h := zit h c
    exact z_ret none (Or.inl ⟨rfl, rfl, dX2_append_49⟩) zN200 ⟨rfl, h⟩
  · have h := zif h c
    refine z_aload_n (i := 0) dX2_append_7 rfl rfl rfl ?_
    refine z_getI (x := s.1 75 1) rfl f_X2_21 i_75 rfl dX2_append_8 rfl ?_
    refine z_sipush (v := (400 : Int32)) dX2_append_11 (by decide) rfl ?_
    refine z_icmp_ge (pt := 43) dX2_append_14 (by decide) rfl (fun c => ?_) (fun c => ?_)
    · have h := zit h c
      refine z_iinc (v := x2 - (8 : Int32)) dX2_append_43 rfl (zincn (by decide)) (by decide) (zokd rfl) rfl ?_
      show zt l g d M_X2_append 46 [.ref 75, .int x1, .int (x2 - (8 : Int32))] [] s _
      refine z_goto (pn := 3) dX2_append_46 (by decide) ?_
      exact h
    · have h := zif h c
      refine z_aload_n (i := 0) dX2_append_17 rfl rfl rfl ?_
      refine z_getR (q := 76) f_X2_9 i_75 rfl (r_75_0 hR) (by decide) dX2_append_18 rfl ?_
      refine z_aload_n (i := 0) dX2_append_21 rfl rfl rfl ?_
      refine z_getI (x := s.1 75 1) rfl f_X2_21 i_75 rfl dX2_append_22 rfl ?_
      refine z_iload_n (i := 1) dX2_append_25 rfl rfl rfl ?_
      refine z_iload_n (i := 2) dX2_append_26 rfl rfl rfl ?_
      refine z_ishr dX2_append_27 rfl ?_
      refine z_sipush (v := (255 : Int32)) dX2_append_28 (by decide) rfl ?_
      refine z_iand dX2_append_31 rfl ?_
      obtain ⟨a1, h⟩ := h
      have wa1 := vin a1
      refine z_iast a_76 a1 dX2_append_32 rfl ?_
      show zt l g d M_X2_append 33 [.ref 75, .int x1, .int x2] [] (zI s 76 ((s.1 75 1).toNatClampNeg) ((x1 >>> (x2 &&& 31)) &&& (255 : Int32))) _
      refine z_aload_n (i := 0) dX2_append_33 rfl rfl rfl ?_
      refine z_dup dX2_append_34 rfl rfl ?_
      refine z_getI (x := s.1 75 1) (zI_o (by decide)) f_X2_21 i_75 rfl dX2_append_35 rfl ?_
      refine z_iconst (v := (1 : Int32)) dX2_append_38 (by decide) rfl ?_
      refine z_iadd dX2_append_39 rfl ?_
      refine z_putI f_X2_21 i_75 rfl (Or.inl rfl) rfl rfl dX2_append_40 rfl ?_
      refine z_iinc (v := x2 - (8 : Int32)) dX2_append_43 rfl (zincn (by decide)) (by decide) (zokd rfl) rfl ?_
      show zt l g d M_X2_append 46 [.ref 75, .int x1, .int (x2 - (8 : Int32))] [] (zI (zI s 76 ((s.1 75 1).toNatClampNeg) ((x1 >>> (x2 &&& 31)) &&& (255 : Int32))) 75 1 ((s.1 75 1) + (1 : Int32))) _
      refine z_goto (pn := 3) dX2_append_46 (by decide) ?_
      exact h
theorem dX2_judge_0 : decode cX2_judge 0 = .ok (.aload_n 0, 1) := by decide +kernel
theorem dX2_judge_1 : decode cX2_judge 1 = .ok (.invokevirtual 25, 3) := by decide +kernel
theorem dX2_judge_4 : decode cX2_judge 4 = .ok (.aload_n 1, 1) := by decide +kernel
theorem dX2_judge_5 : decode cX2_judge 5 = .ok (.invokevirtual 28, 3) := by decide +kernel
theorem dX2_judge_8 : decode cX2_judge 8 = .ok (.aload_n 0, 1) := by decide +kernel
theorem dX2_judge_9 : decode cX2_judge 9 = .ok (.iconst 0, 1) := by decide +kernel
theorem dX2_judge_10 : decode cX2_judge 10 = .ok (.putfield 33, 3) := by decide +kernel
theorem dX2_judge_13 : decode cX2_judge 13 = .ok (.aload_n 0, 1) := by decide +kernel
theorem dX2_judge_14 : decode cX2_judge 14 = .ok (.invokevirtual 36, 3) := by decide +kernel
theorem dX2_judge_17 : decode cX2_judge 17 = .ok (.sipush 30000, 3) := by decide +kernel
theorem dX2_judge_20 : decode cX2_judge 20 = .ok (.if_icmp .eq 7, 3) := by decide +kernel
theorem dX2_judge_23 : decode cX2_judge 23 = .ok (.iconst 1, 1) := by decide +kernel
theorem dX2_judge_24 : decode cX2_judge 24 = .ok (.goto 4, 3) := by decide +kernel
theorem dX2_judge_27 : decode cX2_judge 27 = .ok (.iconst 0, 1) := by decide +kernel
theorem dX2_judge_28 : decode cX2_judge 28 = .ok (.istore_n 2, 1) := by decide +kernel
theorem dX2_judge_29 : decode cX2_judge 29 = .ok (.iconst 0, 1) := by decide +kernel
theorem dX2_judge_30 : decode cX2_judge 30 = .ok (.istore_n 3, 1) := by decide +kernel
theorem dX2_judge_31 : decode cX2_judge 31 = .ok (.iload_n 3, 1) := by decide +kernel
theorem dX2_judge_32 : decode cX2_judge 32 = .ok (.sipush 400, 3) := by decide +kernel
theorem dX2_judge_35 : decode cX2_judge 35 = .ok (.if_icmp .ge 29, 3) := by decide +kernel
theorem dX2_judge_38 : decode cX2_judge 38 = .ok (.iload_n 2, 1) := by decide +kernel
theorem dX2_judge_39 : decode cX2_judge 39 = .ok (.ifCond .eq 25, 3) := by decide +kernel
theorem dX2_judge_42 : decode cX2_judge 42 = .ok (.aload_n 0, 1) := by decide +kernel
theorem dX2_judge_43 : decode cX2_judge 43 = .ok (.invokevirtual 36, 3) := by decide +kernel
theorem dX2_judge_46 : decode cX2_judge 46 = .ok (.sipush 30000, 3) := by decide +kernel
theorem dX2_judge_49 : decode cX2_judge 49 = .ok (.if_icmp .eq 15, 3) := by decide +kernel
theorem dX2_judge_52 : decode cX2_judge 52 = .ok (.aload_n 0, 1) := by decide +kernel
theorem dX2_judge_53 : decode cX2_judge 53 = .ok (.aload_n 1, 1) := by decide +kernel
theorem dX2_judge_54 : decode cX2_judge 54 = .ok (.invokevirtual 40, 3) := by decide +kernel
theorem dX2_judge_57 : decode cX2_judge 57 = .ok (.istore_n 2, 1) := by decide +kernel
theorem dX2_judge_58 : decode cX2_judge 58 = .ok (.iinc 3 1, 3) := by decide +kernel
theorem dX2_judge_61 : decode cX2_judge 61 = .ok (.goto (-30), 3) := by decide +kernel
theorem dX2_judge_64 : decode cX2_judge 64 = .ok (.iload_n 2, 1) := by decide +kernel
theorem dX2_judge_65 : decode cX2_judge 65 = .ok (.ifCond .eq 7, 3) := by decide +kernel
theorem dX2_judge_68 : decode cX2_judge 68 = .ok (.iconst (-1), 1) := by decide +kernel
theorem dX2_judge_69 : decode cX2_judge 69 = .ok (.goto 7, 3) := by decide +kernel
theorem dX2_judge_72 : decode cX2_judge 72 = .ok (.aload_n 0, 1) := by decide +kernel
theorem dX2_judge_73 : decode cX2_judge 73 = .ok (.invokevirtual 44, 3) := by decide +kernel
theorem dX2_judge_76 : decode cX2_judge 76 = .ok (.ireturn, 1) := by decide +kernel
set_option maxHeartbeats 4000000 in
set_option maxRecDepth 100000 in
theorem t_X2_judge {l : Launch} {g : zG} {d : Nat} {s : zS} (hR : zRok s) {p0 : Nat} (hp0 : p0 = 79 ∨ p0 = 85) {K : Int32 → zS → Prop} (h : (zc l g d M_X2_split [.ref 75] s (zKv (fun s1 => s1.2.2.1 = s.2.2.1 ∧ (zc l g d M_X3_clear [.ref p0] s1 (zKv (fun s2 => s2.2.2.1 = s1.2.2.1 ∧ (zc l g d M_X2_token [.ref 75] (zI s2 75 5 (0 : Int32)) (zKi (fun r4 s3 => s3.2.2.1 = s2.2.2.1 ∧ (if r4 = (30000 : Int32) then zt l g (d + 1) M_X2_judge 31 [.ref 75, .ref p0, .int (0 : Int32), .int (0 : Int32)] [] s3 (zKi K) else zt l g (d + 1) M_X2_judge 31 [.ref 75, .ref p0, .int (1 : Int32), .int (0 : Int32)] [] s3 (zKi K)))))))))))) : zc l g (d + 1) M_X2_judge [.ref 75, .ref p0] s (zKi K) := by
  refine zCall_of k_X2_judge (Nat.le_of_ble_eq_true rfl) (Nat.le_refl _) (fun _ => ?_)
  show zt l g (d + 1) M_X2_judge 0 [.ref 75, .ref p0, zJ, zJ] [] s (zKi K)
  refine z_aload_n (i := 0) dX2_judge_0 rfl rfl rfl ?_
  refine z_callV k_X2_split m_X2_25 (zRec_of i_75) rfl h rfl (Nat.le_of_ble_eq_true rfl) dX2_judge_1 zy200 rfl ?_
  rintro v s1 ⟨rfl, hRs1, h⟩
  show zt l g (d + 1) M_X2_judge 4 [.ref 75, .ref p0, zJ, zJ] [] s1 _
  refine z_aload_n (i := 1) dX2_judge_4 rfl rfl rfl ?_
  refine z_callV k_X3_clear m_X2_28 (zRec_of (i_Ru hp0)) rfl h rfl (Nat.le_of_ble_eq_true rfl) dX2_judge_5 zy200 rfl ?_
  rintro v s2 ⟨rfl, hRs2, h⟩
  show zt l g (d + 1) M_X2_judge 8 [.ref 75, .ref p0, zJ, zJ] [] s2 _
  refine z_aload_n (i := 0) dX2_judge_8 rfl rfl rfl ?_
  refine z_iconst (v := (0 : Int32)) dX2_judge_9 (by decide) rfl ?_
  refine z_putI f_X2_33 i_75 rfl (Or.inl rfl) rfl rfl dX2_judge_10 rfl ?_
  refine z_aload_n (i := 0) dX2_judge_13 rfl rfl rfl ?_
  refine z_callV k_X2_token m_X2_36 (zRec_of i_75) rfl h rfl (Nat.le_of_ble_eq_true rfl) dX2_judge_14 zy200 rfl ?_
  rintro v s3 ⟨r4, rfl, hRs3, h⟩
  show zt l g (d + 1) M_X2_judge 17 [.ref 75, .ref p0, zJ, zJ] [.int r4] s3 _
  refine z_sipush (v := (30000 : Int32)) dX2_judge_17 (by decide) rfl ?_
  refine z_icmp_eq (pt := 27) dX2_judge_20 (by decide) rfl (fun c => ?_) (fun c => ?_)
  · have h := zit h c
    refine z_iconst (v := (0 : Int32)) dX2_judge_27 (by decide) rfl ?_
    refine z_istore_n (i := 2) dX2_judge_28 rfl (by decide) (zokd rfl) rfl ?_
    show zt l g (d + 1) M_X2_judge 29 [.ref 75, .ref p0, .int (0 : Int32), zJ] [] s3 _
    refine z_iconst (v := (0 : Int32)) dX2_judge_29 (by decide) rfl ?_
    refine z_istore_n (i := 3) dX2_judge_30 rfl (by decide) (zokd rfl) rfl ?_
    show zt l g (d + 1) M_X2_judge 31 [.ref 75, .ref p0, .int (0 : Int32), .int (0 : Int32)] [] s3 _
    exact h
  · have h := zif h c
    refine z_iconst (v := (1 : Int32)) dX2_judge_23 (by decide) rfl ?_
    refine z_goto (pn := 28) dX2_judge_24 (by decide) ?_
    refine z_istore_n (i := 2) dX2_judge_28 rfl (by decide) (zokd rfl) rfl ?_
    show zt l g (d + 1) M_X2_judge 29 [.ref 75, .ref p0, .int (1 : Int32), zJ] [] s3 _
    refine z_iconst (v := (0 : Int32)) dX2_judge_29 (by decide) rfl ?_
    refine z_istore_n (i := 3) dX2_judge_30 rfl (by decide) (zokd rfl) rfl ?_
    show zt l g (d + 1) M_X2_judge 31 [.ref 75, .ref p0, .int (1 : Int32), .int (0 : Int32)] [] s3 _
    exact h
set_option maxHeartbeats 4000000 in
set_option maxRecDepth 100000 in
theorem t_X2_judge_31 {l : Launch} {g : zG} {d : Nat} {s : zS} (hR : zRok s) {x1 : Nat} (hx1 : x1 = 79 ∨ x1 = 85) {x2 : Int32} {x3 : Int32} {K : Int32 → zS → Prop} (h : (if (400 : Int32) ≤ x3 then (if x2 = 0 then (zc l g d M_X2_faultPlace [.ref 75] s (zKi (fun r2 s1 => s1.2.2.1 = s.2.2.1 ∧ K r2 s1))) else K (-1 : Int32) s) else (if x2 = 0 then (if x2 = 0 then (zc l g d M_X2_faultPlace [.ref 75] s (zKi (fun r4 s3 => s3.2.2.1 = s.2.2.1 ∧ K r4 s3))) else K (-1 : Int32) s) else (zc l g d M_X2_token [.ref 75] s (zKi (fun r6 s5 => s5.2.2.1 = s.2.2.1 ∧ (if r6 = (30000 : Int32) then (if x2 = 0 then (zc l g d M_X2_faultPlace [.ref 75] s5 (zKi (fun r8 s7 => s7.2.2.1 = s5.2.2.1 ∧ K r8 s7))) else K (-1 : Int32) s5) else (zc l g d M_X2_readLine [.ref 75, .ref x1] s5 (zKz (fun b10 s9 => s9.2.2.1 = s5.2.2.1 ∧ zt l g (d + 1) M_X2_judge 31 [.ref 75, .ref x1, .int (zb b10), .int (x3 + (1 : Int32))] [] s9 (zKi K))))))))))) : zt l g (d + 1) M_X2_judge 31 [.ref 75, .ref x1, .int x2, .int x3] [] s (zKi K) := by
  refine z_iload_n (i := 3) dX2_judge_31 rfl rfl rfl ?_
  refine z_sipush (v := (400 : Int32)) dX2_judge_32 (by decide) rfl ?_
  refine z_icmp_ge (pt := 64) dX2_judge_35 (by decide) rfl (fun c => ?_) (fun c => ?_)
  · have h := zit h c
    refine z_iload_n (i := 2) dX2_judge_64 rfl rfl rfl ?_
    refine z_if_eq (pt := 72) dX2_judge_65 (by decide) rfl (fun c => ?_) (fun c => ?_)
    · have h := zit h c
      refine z_aload_n (i := 0) dX2_judge_72 rfl rfl rfl ?_
      refine z_callV k_X2_faultPlace m_X2_44 (zRec_of i_75) rfl h rfl (Nat.le_of_ble_eq_true rfl) dX2_judge_73 zy200 rfl ?_
      rintro v s1 ⟨r2, rfl, hRs1, h⟩
      show zt l g (d + 1) M_X2_judge 76 [.ref 75, .ref x1, .int x2, .int x3] [.int r2] s1 _
      exact z_ret (some (.int r2)) (Or.inr (Or.inl ⟨_, _, rfl, rfl, rfl, dX2_judge_76⟩)) zN200 ⟨_, rfl, h⟩
    · have h := zif h c
      refine z_iconst (v := (-1 : Int32)) dX2_judge_68 (by decide) rfl ?_
      refine z_goto (pn := 76) dX2_judge_69 (by decide) ?_
      exact z_ret (some (.int (-1 : Int32))) (Or.inr (Or.inl ⟨_, _, rfl, rfl, rfl, dX2_judge_76⟩)) zN200 ⟨_, rfl, h⟩
  · have h := zif h c
    refine z_iload_n (i := 2) dX2_judge_38 rfl rfl rfl ?_
    refine z_if_eq (pt := 64) dX2_judge_39 (by decide) rfl (fun c => ?_) (fun c => ?_)
    · have h := zit h c
      refine z_iload_n (i := 2) dX2_judge_64 rfl rfl rfl ?_
      refine z_if_eq (pt := 72) dX2_judge_65 (by decide) rfl (fun c => ?_) (fun c => ?_)
      · have h := zit h c
        refine z_aload_n (i := 0) dX2_judge_72 rfl rfl rfl ?_
        refine z_callV k_X2_faultPlace m_X2_44 (zRec_of i_75) rfl h rfl (Nat.le_of_ble_eq_true rfl) dX2_judge_73 zy200 rfl ?_
        rintro v s3 ⟨r4, rfl, hRs3, h⟩
        show zt l g (d + 1) M_X2_judge 76 [.ref 75, .ref x1, .int x2, .int x3] [.int r4] s3 _
        exact z_ret (some (.int r4)) (Or.inr (Or.inl ⟨_, _, rfl, rfl, rfl, dX2_judge_76⟩)) zN200 ⟨_, rfl, h⟩
      · have h := zif h c
        refine z_iconst (v := (-1 : Int32)) dX2_judge_68 (by decide) rfl ?_
        refine z_goto (pn := 76) dX2_judge_69 (by decide) ?_
        exact z_ret (some (.int (-1 : Int32))) (Or.inr (Or.inl ⟨_, _, rfl, rfl, rfl, dX2_judge_76⟩)) zN200 ⟨_, rfl, h⟩
    · have h := zif h c
      refine z_aload_n (i := 0) dX2_judge_42 rfl rfl rfl ?_
      refine z_callV k_X2_token m_X2_36 (zRec_of i_75) rfl h rfl (Nat.le_of_ble_eq_true rfl) dX2_judge_43 zy200 rfl ?_
      rintro v s5 ⟨r6, rfl, hRs5, h⟩
      show zt l g (d + 1) M_X2_judge 46 [.ref 75, .ref x1, .int x2, .int x3] [.int r6] s5 _
      refine z_sipush (v := (30000 : Int32)) dX2_judge_46 (by decide) rfl ?_
      refine z_icmp_eq (pt := 64) dX2_judge_49 (by decide) rfl (fun c => ?_) (fun c => ?_)
      · have h := zit h c
        refine z_iload_n (i := 2) dX2_judge_64 rfl rfl rfl ?_
        refine z_if_eq (pt := 72) dX2_judge_65 (by decide) rfl (fun c => ?_) (fun c => ?_)
        · have h := zit h c
          refine z_aload_n (i := 0) dX2_judge_72 rfl rfl rfl ?_
          refine z_callV k_X2_faultPlace m_X2_44 (zRec_of i_75) rfl h rfl (Nat.le_of_ble_eq_true rfl) dX2_judge_73 zy200 rfl ?_
          rintro v s7 ⟨r8, rfl, hRs7, h⟩
          show zt l g (d + 1) M_X2_judge 76 [.ref 75, .ref x1, .int x2, .int x3] [.int r8] s7 _
          exact z_ret (some (.int r8)) (Or.inr (Or.inl ⟨_, _, rfl, rfl, rfl, dX2_judge_76⟩)) zN200 ⟨_, rfl, h⟩
        · have h := zif h c
          refine z_iconst (v := (-1 : Int32)) dX2_judge_68 (by decide) rfl ?_
          refine z_goto (pn := 76) dX2_judge_69 (by decide) ?_
          exact z_ret (some (.int (-1 : Int32))) (Or.inr (Or.inl ⟨_, _, rfl, rfl, rfl, dX2_judge_76⟩)) zN200 ⟨_, rfl, h⟩
      · have h := zif h c
        refine z_aload_n (i := 0) dX2_judge_52 rfl rfl rfl ?_
        refine z_aload_n (i := 1) dX2_judge_53 rfl rfl rfl ?_
        refine z_callV k_X2_readLine m_X2_40 (zRec_of i_75) rfl h rfl (Nat.le_of_ble_eq_true rfl) dX2_judge_54 zy200 rfl ?_
        rintro v s9 ⟨b10, rfl, hRs9, h⟩
        show zt l g (d + 1) M_X2_judge 57 [.ref 75, .ref x1, .int x2, .int x3] [.int (zb b10)] s9 _
        refine z_istore_n (i := 2) dX2_judge_57 rfl (by decide) (zokd rfl) rfl ?_
        show zt l g (d + 1) M_X2_judge 58 [.ref 75, .ref x1, .int (zb b10), .int x3] [] s9 _
        refine z_iinc (v := x3 + (1 : Int32)) dX2_judge_58 rfl rfl (by decide) (zokd rfl) rfl ?_
        show zt l g (d + 1) M_X2_judge 61 [.ref 75, .ref x1, .int (zb b10), .int (x3 + (1 : Int32))] [] s9 _
        refine z_goto (pn := 31) dX2_judge_61 (by decide) ?_
        exact h
theorem dX2_faultPlace_0 : decode cX2_faultPlace 0 = .ok (.aload_n 0, 1) := by decide +kernel
theorem dX2_faultPlace_1 : decode cX2_faultPlace 1 = .ok (.getfield 33, 3) := by decide +kernel
theorem dX2_faultPlace_4 : decode cX2_faultPlace 4 = .ok (.aload_n 0, 1) := by decide +kernel
theorem dX2_faultPlace_5 : decode cX2_faultPlace 5 = .ok (.getfield 47, 3) := by decide +kernel
theorem dX2_faultPlace_8 : decode cX2_faultPlace 8 = .ok (.if_icmp .ge 15, 3) := by decide +kernel
theorem dX2_faultPlace_11 : decode cX2_faultPlace 11 = .ok (.aload_n 0, 1) := by decide +kernel
theorem dX2_faultPlace_12 : decode cX2_faultPlace 12 = .ok (.getfield 18, 3) := by decide +kernel
theorem dX2_faultPlace_15 : decode cX2_faultPlace 15 = .ok (.aload_n 0, 1) := by decide +kernel
theorem dX2_faultPlace_16 : decode cX2_faultPlace 16 = .ok (.getfield 33, 3) := by decide +kernel
theorem dX2_faultPlace_19 : decode cX2_faultPlace 19 = .ok (.iaload, 1) := by decide +kernel
theorem dX2_faultPlace_20 : decode cX2_faultPlace 20 = .ok (.goto 7, 3) := by decide +kernel
theorem dX2_faultPlace_23 : decode cX2_faultPlace 23 = .ok (.aload_n 0, 1) := by decide +kernel
theorem dX2_faultPlace_24 : decode cX2_faultPlace 24 = .ok (.getfield 21, 3) := by decide +kernel
theorem dX2_faultPlace_27 : decode cX2_faultPlace 27 = .ok (.ireturn, 1) := by decide +kernel
set_option maxHeartbeats 4000000 in
set_option maxRecDepth 100000 in
theorem t_X2_faultPlace {l : Launch} {g : zG} {d : Nat} {s : zS} (hR : zRok s)  {K : Int32 → zS → Prop} (h : (if (s.1 75 4) ≤ (s.1 75 5) then K (s.1 75 1) s else (vp_in (s.1 75 5) 401 ∧ K (s.1 78 ((s.1 75 5).toNatClampNeg)) s))) : zc l g d M_X2_faultPlace [.ref 75] s (zKi K) := by
  refine zCall_of k_X2_faultPlace (Nat.le_of_ble_eq_true rfl) (Nat.le_refl _) (fun _ => ?_)
  show zt l g d M_X2_faultPlace 0 [.ref 75] [] s (zKi K)
  refine z_aload_n (i := 0) dX2_faultPlace_0 rfl rfl rfl ?_
  refine z_getI (x := s.1 75 5) rfl f_X2_33 i_75 rfl dX2_faultPlace_1 rfl ?_
  refine z_aload_n (i := 0) dX2_faultPlace_4 rfl rfl rfl ?_
  refine z_getI (x := s.1 75 4) rfl f_X2_47 i_75 rfl dX2_faultPlace_5 rfl ?_
  refine z_icmp_ge (pt := 23) dX2_faultPlace_8 (by decide) rfl (fun c => ?_) (fun c => ?_)
  · have h := zit h c
    refine z_aload_n (i := 0) dX2_faultPlace_23 rfl rfl rfl ?_
    refine z_getI (x := s.1 75 1) rfl f_X2_21 i_75 rfl dX2_faultPlace_24 rfl ?_
    exact z_ret (some (.int (s.1 75 1))) (Or.inr (Or.inl ⟨_, _, rfl, rfl, rfl, dX2_faultPlace_27⟩)) zN200 ⟨_, rfl, h⟩
  · have h := zif h c
    refine z_aload_n (i := 0) dX2_faultPlace_11 rfl rfl rfl ?_
    refine z_getR (q := 78) f_X2_18 i_75 rfl (r_75_3 hR) (by decide) dX2_faultPlace_12 rfl ?_
    refine z_aload_n (i := 0) dX2_faultPlace_15 rfl rfl rfl ?_
    refine z_getI (x := s.1 75 5) rfl f_X2_33 i_75 rfl dX2_faultPlace_16 rfl ?_
    obtain ⟨a1, h⟩ := h
    have wa1 := vin a1
    refine z_iald (x := s.1 78 ((s.1 75 5).toNatClampNeg)) rfl a_78 a1 dX2_faultPlace_19 rfl ?_
    refine z_goto (pn := 27) dX2_faultPlace_20 (by decide) ?_
    exact z_ret (some (.int (s.1 78 ((s.1 75 5).toNatClampNeg)))) (Or.inr (Or.inl ⟨_, _, rfl, rfl, rfl, dX2_faultPlace_27⟩)) zN200 ⟨_, rfl, h⟩
theorem dX2_split_0 : decode cX2_split 0 = .ok (.aload_n 0, 1) := by decide +kernel
theorem dX2_split_1 : decode cX2_split 1 = .ok (.iconst 0, 1) := by decide +kernel
theorem dX2_split_2 : decode cX2_split 2 = .ok (.putfield 47, 3) := by decide +kernel
theorem dX2_split_5 : decode cX2_split 5 = .ok (.iconst 0, 1) := by decide +kernel
theorem dX2_split_6 : decode cX2_split 6 = .ok (.istore_n 1, 1) := by decide +kernel
theorem dX2_split_7 : decode cX2_split 7 = .ok (.iconst 0, 1) := by decide +kernel
theorem dX2_split_8 : decode cX2_split 8 = .ok (.istore_n 2, 1) := by decide +kernel
theorem dX2_split_9 : decode cX2_split 9 = .ok (.iload_n 2, 1) := by decide +kernel
theorem dX2_split_10 : decode cX2_split 10 = .ok (.sipush 400, 3) := by decide +kernel
theorem dX2_split_13 : decode cX2_split 13 = .ok (.if_icmp .ge 82, 3) := by decide +kernel
theorem dX2_split_16 : decode cX2_split 16 = .ok (.iload_n 1, 1) := by decide +kernel
theorem dX2_split_17 : decode cX2_split 17 = .ok (.aload_n 0, 1) := by decide +kernel
theorem dX2_split_18 : decode cX2_split 18 = .ok (.getfield 21, 3) := by decide +kernel
theorem dX2_split_21 : decode cX2_split 21 = .ok (.if_icmp .ge 74, 3) := by decide +kernel
theorem dX2_split_24 : decode cX2_split 24 = .ok (.aload_n 0, 1) := by decide +kernel
theorem dX2_split_25 : decode cX2_split 25 = .ok (.iload_n 1, 1) := by decide +kernel
theorem dX2_split_26 : decode cX2_split 26 = .ok (.invokevirtual 50, 3) := by decide +kernel
theorem dX2_split_29 : decode cX2_split 29 = .ok (.istore_n 3, 1) := by decide +kernel
theorem dX2_split_30 : decode cX2_split 30 = .ok (.aload_n 0, 1) := by decide +kernel
theorem dX2_split_31 : decode cX2_split 31 = .ok (.getfield 9, 3) := by decide +kernel
theorem dX2_split_34 : decode cX2_split 34 = .ok (.iload_n 1, 1) := by decide +kernel
theorem dX2_split_35 : decode cX2_split 35 = .ok (.iaload, 1) := by decide +kernel
theorem dX2_split_36 : decode cX2_split 36 = .ok (.bipush 32, 2) := by decide +kernel
theorem dX2_split_38 : decode cX2_split 38 = .ok (.if_icmp .eq 49, 3) := by decide +kernel
theorem dX2_split_41 : decode cX2_split 41 = .ok (.aload_n 0, 1) := by decide +kernel
theorem dX2_split_42 : decode cX2_split 42 = .ok (.getfield 9, 3) := by decide +kernel
theorem dX2_split_45 : decode cX2_split 45 = .ok (.iload_n 1, 1) := by decide +kernel
theorem dX2_split_46 : decode cX2_split 46 = .ok (.iaload, 1) := by decide +kernel
theorem dX2_split_47 : decode cX2_split 47 = .ok (.bipush 10, 2) := by decide +kernel
theorem dX2_split_49 : decode cX2_split 49 = .ok (.if_icmp .eq 38, 3) := by decide +kernel
theorem dX2_split_52 : decode cX2_split 52 = .ok (.aload_n 0, 1) := by decide +kernel
theorem dX2_split_53 : decode cX2_split 53 = .ok (.getfield 15, 3) := by decide +kernel
theorem dX2_split_56 : decode cX2_split 56 = .ok (.aload_n 0, 1) := by decide +kernel
theorem dX2_split_57 : decode cX2_split 57 = .ok (.getfield 47, 3) := by decide +kernel
theorem dX2_split_60 : decode cX2_split 60 = .ok (.aload_n 0, 1) := by decide +kernel
theorem dX2_split_61 : decode cX2_split 61 = .ok (.iload_n 1, 1) := by decide +kernel
theorem dX2_split_62 : decode cX2_split 62 = .ok (.iload_n 3, 1) := by decide +kernel
theorem dX2_split_63 : decode cX2_split 63 = .ok (.invokevirtual 54, 3) := by decide +kernel
theorem dX2_split_66 : decode cX2_split 66 = .ok (.iastore, 1) := by decide +kernel
theorem dX2_split_67 : decode cX2_split 67 = .ok (.aload_n 0, 1) := by decide +kernel
theorem dX2_split_68 : decode cX2_split 68 = .ok (.getfield 18, 3) := by decide +kernel
theorem dX2_split_71 : decode cX2_split 71 = .ok (.aload_n 0, 1) := by decide +kernel
theorem dX2_split_72 : decode cX2_split 72 = .ok (.getfield 47, 3) := by decide +kernel
theorem dX2_split_75 : decode cX2_split 75 = .ok (.iload_n 1, 1) := by decide +kernel
theorem dX2_split_76 : decode cX2_split 76 = .ok (.iastore, 1) := by decide +kernel
theorem dX2_split_77 : decode cX2_split 77 = .ok (.aload_n 0, 1) := by decide +kernel
theorem dX2_split_78 : decode cX2_split 78 = .ok (.dup, 1) := by decide +kernel
theorem dX2_split_79 : decode cX2_split 79 = .ok (.getfield 47, 3) := by decide +kernel
theorem dX2_split_82 : decode cX2_split 82 = .ok (.iconst 1, 1) := by decide +kernel
theorem dX2_split_83 : decode cX2_split 83 = .ok (.iadd, 1) := by decide +kernel
theorem dX2_split_84 : decode cX2_split 84 = .ok (.putfield 47, 3) := by decide +kernel
theorem dX2_split_87 : decode cX2_split 87 = .ok (.iload_n 3, 1) := by decide +kernel
theorem dX2_split_88 : decode cX2_split 88 = .ok (.istore_n 1, 1) := by decide +kernel
theorem dX2_split_89 : decode cX2_split 89 = .ok (.iinc 2 1, 3) := by decide +kernel
theorem dX2_split_92 : decode cX2_split 92 = .ok (.goto (-83), 3) := by decide +kernel
theorem dX2_split_95 : decode cX2_split 95 = .ok (.aload_n 0, 1) := by decide +kernel
theorem dX2_split_96 : decode cX2_split 96 = .ok (.getfield 15, 3) := by decide +kernel
theorem dX2_split_99 : decode cX2_split 99 = .ok (.aload_n 0, 1) := by decide +kernel
theorem dX2_split_100 : decode cX2_split 100 = .ok (.getfield 47, 3) := by decide +kernel
theorem dX2_split_103 : decode cX2_split 103 = .ok (.sipush 30000, 3) := by decide +kernel
theorem dX2_split_106 : decode cX2_split 106 = .ok (.iastore, 1) := by decide +kernel
theorem dX2_split_107 : decode cX2_split 107 = .ok (.aload_n 0, 1) := by decide +kernel
theorem dX2_split_108 : decode cX2_split 108 = .ok (.getfield 18, 3) := by decide +kernel
theorem dX2_split_111 : decode cX2_split 111 = .ok (.aload_n 0, 1) := by decide +kernel
theorem dX2_split_112 : decode cX2_split 112 = .ok (.getfield 47, 3) := by decide +kernel
theorem dX2_split_115 : decode cX2_split 115 = .ok (.aload_n 0, 1) := by decide +kernel
theorem dX2_split_116 : decode cX2_split 116 = .ok (.getfield 21, 3) := by decide +kernel
theorem dX2_split_119 : decode cX2_split 119 = .ok (.iastore, 1) := by decide +kernel
theorem dX2_split_120 : decode cX2_split 120 = .ok (.aload_n 0, 1) := by decide +kernel
theorem dX2_split_121 : decode cX2_split 121 = .ok (.dup, 1) := by decide +kernel
theorem dX2_split_122 : decode cX2_split 122 = .ok (.getfield 47, 3) := by decide +kernel
theorem dX2_split_125 : decode cX2_split 125 = .ok (.iconst 1, 1) := by decide +kernel
theorem dX2_split_126 : decode cX2_split 126 = .ok (.iadd, 1) := by decide +kernel
theorem dX2_split_127 : decode cX2_split 127 = .ok (.putfield 47, 3) := by decide +kernel
theorem dX2_split_130 : decode cX2_split 130 = .ok (.return_, 1) := by decide +kernel
set_option maxHeartbeats 4000000 in
set_option maxRecDepth 100000 in
theorem t_X2_split {l : Launch} {g : zG} {d : Nat} {s : zS} (hR : zRok s)  {K : zS → Prop} (h : zt l g (d + 1) M_X2_split 9 [.ref 75, .int (0 : Int32), .int (0 : Int32), zJ] [] (zI s 75 4 (0 : Int32)) (zKv K)) : zc l g (d + 1) M_X2_split [.ref 75] s (zKv K) := by
  refine zCall_of k_X2_split (Nat.le_of_ble_eq_true rfl) (Nat.le_refl _) (fun _ => ?_)
  show zt l g (d + 1) M_X2_split 0 [.ref 75, zJ, zJ, zJ] [] s (zKv K)
  refine z_aload_n (i := 0) dX2_split_0 rfl rfl rfl ?_
  refine z_iconst (v := (0 : Int32)) dX2_split_1 (by decide) rfl ?_
  refine z_putI f_X2_47 i_75 rfl (Or.inl rfl) rfl rfl dX2_split_2 rfl ?_
  refine z_iconst (v := (0 : Int32)) dX2_split_5 (by decide) rfl ?_
  refine z_istore_n (i := 1) dX2_split_6 rfl (by decide) (zokd rfl) rfl ?_
  show zt l g (d + 1) M_X2_split 7 [.ref 75, .int (0 : Int32), zJ, zJ] [] (zI s 75 4 (0 : Int32)) _
  refine z_iconst (v := (0 : Int32)) dX2_split_7 (by decide) rfl ?_
  refine z_istore_n (i := 2) dX2_split_8 rfl (by decide) (zokd rfl) rfl ?_
  show zt l g (d + 1) M_X2_split 9 [.ref 75, .int (0 : Int32), .int (0 : Int32), zJ] [] (zI s 75 4 (0 : Int32)) _
  exact h
set_option maxHeartbeats 4000000 in
set_option maxRecDepth 100000 in
theorem t_X2_split_9 {l : Launch} {g : zG} {d : Nat} {s : zS} (hR : zRok s) {x1 : Int32} {x2 : Int32} {K : zS → Prop} (h : (if (400 : Int32) ≤ x2 then (vp_in (s.1 75 4) 401 ∧ (vp_in (s.1 75 4) 401 ∧ K (zI (zI (zI s 77 ((s.1 75 4).toNatClampNeg) (30000 : Int32)) 78 ((s.1 75 4).toNatClampNeg) (s.1 75 1)) 75 4 ((s.1 75 4) + (1 : Int32))))) else (if (s.1 75 1) ≤ x1 then (vp_in (s.1 75 4) 401 ∧ (vp_in (s.1 75 4) 401 ∧ K (zI (zI (zI s 77 ((s.1 75 4).toNatClampNeg) (30000 : Int32)) 78 ((s.1 75 4).toNatClampNeg) (s.1 75 1)) 75 4 ((s.1 75 4) + (1 : Int32))))) else (zc l g d M_X2_tokenEnd [.ref 75, .int x1] s (zKi (fun r6 s5 => s5.2.2.1 = s.2.2.1 ∧ (vp_in x1 400 ∧ (if (s5.1 76 x1.toNatClampNeg) = (32 : Int32) then zt l g (d + 1) M_X2_split 9 [.ref 75, .int r6, .int (x2 + (1 : Int32)), zJ] [] s5 (zKv K) else (vp_in x1 400 ∧ (if (s5.1 76 x1.toNatClampNeg) = (10 : Int32) then zt l g (d + 1) M_X2_split 9 [.ref 75, .int r6, .int (x2 + (1 : Int32)), zJ] [] s5 (zKv K) else (zc l g d M_X2_tokenOf [.ref 75, .int x1, .int r6] s5 (zKi (fun r10 s9 => s9.2.2.1 = s5.2.2.1 ∧ (vp_in (s5.1 75 4) 401 ∧ (vp_in (s9.1 75 4) 401 ∧ zt l g (d + 1) M_X2_split 9 [.ref 75, .int r6, .int (x2 + (1 : Int32)), zJ] [] (zI (zI (zI s9 77 ((s5.1 75 4).toNatClampNeg) r10) 78 ((s9.1 75 4).toNatClampNeg) x1) 75 4 ((s9.1 75 4) + (1 : Int32))) (zKv K)))))))))))))))) : zt l g (d + 1) M_X2_split 9 [.ref 75, .int x1, .int x2, zJ] [] s (zKv K) := by
  refine z_iload_n (i := 2) dX2_split_9 rfl rfl rfl ?_
  refine z_sipush (v := (400 : Int32)) dX2_split_10 (by decide) rfl ?_
  refine z_icmp_ge (pt := 95) dX2_split_13 (by decide) rfl (fun c => ?_) (fun c => ?_)
  · have h := zit h c
    refine z_aload_n (i := 0) dX2_split_95 rfl rfl rfl ?_
    refine z_getR (q := 77) f_X2_15 i_75 rfl (r_75_2 hR) (by decide) dX2_split_96 rfl ?_
    refine z_aload_n (i := 0) dX2_split_99 rfl rfl rfl ?_
    refine z_getI (x := s.1 75 4) rfl f_X2_47 i_75 rfl dX2_split_100 rfl ?_
    refine z_sipush (v := (30000 : Int32)) dX2_split_103 (by decide) rfl ?_
    obtain ⟨a1, h⟩ := h
    have wa1 := vin a1
    refine z_iast a_77 a1 dX2_split_106 rfl ?_
    show zt l g (d + 1) M_X2_split 107 [.ref 75, .int x1, .int x2, zJ] [] (zI s 77 ((s.1 75 4).toNatClampNeg) (30000 : Int32)) _
    refine z_aload_n (i := 0) dX2_split_107 rfl rfl rfl ?_
    refine z_getR (q := 78) f_X2_18 i_75 rfl (r_75_3 hR) (by decide) dX2_split_108 rfl ?_
    refine z_aload_n (i := 0) dX2_split_111 rfl rfl rfl ?_
    refine z_getI (x := s.1 75 4) (zI_o (by decide)) f_X2_47 i_75 rfl dX2_split_112 rfl ?_
    refine z_aload_n (i := 0) dX2_split_115 rfl rfl rfl ?_
    refine z_getI (x := s.1 75 1) (zI_o (by decide)) f_X2_21 i_75 rfl dX2_split_116 rfl ?_
    obtain ⟨a2, h⟩ := h
    have wa2 := vin a2
    refine z_iast a_78 a2 dX2_split_119 rfl ?_
    show zt l g (d + 1) M_X2_split 120 [.ref 75, .int x1, .int x2, zJ] [] (zI (zI s 77 ((s.1 75 4).toNatClampNeg) (30000 : Int32)) 78 ((s.1 75 4).toNatClampNeg) (s.1 75 1)) _
    refine z_aload_n (i := 0) dX2_split_120 rfl rfl rfl ?_
    refine z_dup dX2_split_121 rfl rfl ?_
    refine z_getI (x := s.1 75 4) ((zI_o (by decide)).trans (zI_o (by decide))) f_X2_47 i_75 rfl dX2_split_122 rfl ?_
    refine z_iconst (v := (1 : Int32)) dX2_split_125 (by decide) rfl ?_
    refine z_iadd dX2_split_126 rfl ?_
    refine z_putI f_X2_47 i_75 rfl (Or.inl rfl) rfl rfl dX2_split_127 rfl ?_
    exact z_ret none (Or.inl ⟨rfl, rfl, dX2_split_130⟩) zN200 ⟨rfl, h⟩
  · have h := zif h c
    refine z_iload_n (i := 1) dX2_split_16 rfl rfl rfl ?_
    refine z_aload_n (i := 0) dX2_split_17 rfl rfl rfl ?_
    refine z_getI (x := s.1 75 1) rfl f_X2_21 i_75 rfl dX2_split_18 rfl ?_
    refine z_icmp_ge (pt := 95) dX2_split_21 (by decide) rfl (fun c => ?_) (fun c => ?_)
    · have h := zit h c
      refine z_aload_n (i := 0) dX2_split_95 rfl rfl rfl ?_
      refine z_getR (q := 77) f_X2_15 i_75 rfl (r_75_2 hR) (by decide) dX2_split_96 rfl ?_
      refine z_aload_n (i := 0) dX2_split_99 rfl rfl rfl ?_
      refine z_getI (x := s.1 75 4) rfl f_X2_47 i_75 rfl dX2_split_100 rfl ?_
      refine z_sipush (v := (30000 : Int32)) dX2_split_103 (by decide) rfl ?_
      obtain ⟨a3, h⟩ := h
      have wa3 := vin a3
      refine z_iast a_77 a3 dX2_split_106 rfl ?_
      show zt l g (d + 1) M_X2_split 107 [.ref 75, .int x1, .int x2, zJ] [] (zI s 77 ((s.1 75 4).toNatClampNeg) (30000 : Int32)) _
      refine z_aload_n (i := 0) dX2_split_107 rfl rfl rfl ?_
      refine z_getR (q := 78) f_X2_18 i_75 rfl (r_75_3 hR) (by decide) dX2_split_108 rfl ?_
      refine z_aload_n (i := 0) dX2_split_111 rfl rfl rfl ?_
      refine z_getI (x := s.1 75 4) (zI_o (by decide)) f_X2_47 i_75 rfl dX2_split_112 rfl ?_
      refine z_aload_n (i := 0) dX2_split_115 rfl rfl rfl ?_
      refine z_getI (x := s.1 75 1) (zI_o (by decide)) f_X2_21 i_75 rfl dX2_split_116 rfl ?_
      obtain ⟨a4, h⟩ := h
      have wa4 := vin a4
      refine z_iast a_78 a4 dX2_split_119 rfl ?_
      show zt l g (d + 1) M_X2_split 120 [.ref 75, .int x1, .int x2, zJ] [] (zI (zI s 77 ((s.1 75 4).toNatClampNeg) (30000 : Int32)) 78 ((s.1 75 4).toNatClampNeg) (s.1 75 1)) _
      refine z_aload_n (i := 0) dX2_split_120 rfl rfl rfl ?_
      refine z_dup dX2_split_121 rfl rfl ?_
      refine z_getI (x := s.1 75 4) ((zI_o (by decide)).trans (zI_o (by decide))) f_X2_47 i_75 rfl dX2_split_122 rfl ?_
      refine z_iconst (v := (1 : Int32)) dX2_split_125 (by decide) rfl ?_
      refine z_iadd dX2_split_126 rfl ?_
      refine z_putI f_X2_47 i_75 rfl (Or.inl rfl) rfl rfl dX2_split_127 rfl ?_
      exact z_ret none (Or.inl ⟨rfl, rfl, dX2_split_130⟩) zN200 ⟨rfl, h⟩
    · have h := zif h c
      refine z_aload_n (i := 0) dX2_split_24 rfl rfl rfl ?_
      refine z_iload_n (i := 1) dX2_split_25 rfl rfl rfl ?_
      refine z_callV k_X2_tokenEnd m_X2_50 (zRec_of i_75) rfl h rfl (Nat.le_of_ble_eq_true rfl) dX2_split_26 zy200 rfl ?_
      rintro v s5 ⟨r6, rfl, hRs5, h⟩
      show zt l g (d + 1) M_X2_split 29 [.ref 75, .int x1, .int x2, zJ] [.int r6] s5 _
      refine z_istore_n (i := 3) dX2_split_29 rfl (by decide) (zokd rfl) rfl ?_
      show zt l g (d + 1) M_X2_split 30 [.ref 75, .int x1, .int x2, .int r6] [] s5 _
      refine z_aload_n (i := 0) dX2_split_30 rfl rfl rfl ?_
      refine z_getR (q := 76) f_X2_9 i_75 rfl (r_75_0 (zRok_of hRs5 hR)) (by decide) dX2_split_31 rfl ?_
      refine z_iload_n (i := 1) dX2_split_34 rfl rfl rfl ?_
      obtain ⟨a7, h⟩ := h
      have wa7 := vin a7
      refine z_iald (x := s5.1 76 x1.toNatClampNeg) rfl a_76 a7 dX2_split_35 rfl ?_
      refine z_bipush (v := (32 : Int32)) dX2_split_36 (by decide) rfl ?_
      refine z_icmp_eq (pt := 87) dX2_split_38 (by decide) rfl (fun c => ?_) (fun c => ?_)
      · have h := zit h c
        refine z_iload_n (i := 3) dX2_split_87 rfl rfl rfl ?_
        refine z_istore_n (i := 1) dX2_split_88 rfl (by decide) (zokd rfl) rfl ?_
        show zt l g (d + 1) M_X2_split 89 [.ref 75, .int r6, .int x2, .int r6] [] s5 _
        refine z_iinc (v := x2 + (1 : Int32)) dX2_split_89 rfl rfl (by decide) (zokd rfl) rfl ?_
        show zt l g (d + 1) M_X2_split 92 [.ref 75, .int r6, .int (x2 + (1 : Int32)), .int r6] [] s5 _
        refine z_goto (pn := 9) dX2_split_92 (by decide) ?_
        refine z_wk (ls' := [.ref 75, .int r6, .int (x2 + (1 : Int32)), zJ]) ⟨Or.inr rfl, Or.inr rfl, Or.inr rfl, Or.inl rfl, trivial⟩ ?_
        exact h
      · have h := zif h c
        refine z_aload_n (i := 0) dX2_split_41 rfl rfl rfl ?_
        refine z_getR (q := 76) f_X2_9 i_75 rfl (r_75_0 (zRok_of hRs5 hR)) (by decide) dX2_split_42 rfl ?_
        refine z_iload_n (i := 1) dX2_split_45 rfl rfl rfl ?_
        obtain ⟨a8, h⟩ := h
        have wa8 := vin a8
        refine z_iald (x := s5.1 76 x1.toNatClampNeg) rfl a_76 a8 dX2_split_46 rfl ?_
        refine z_bipush (v := (10 : Int32)) dX2_split_47 (by decide) rfl ?_
        refine z_icmp_eq (pt := 87) dX2_split_49 (by decide) rfl (fun c => ?_) (fun c => ?_)
        · have h := zit h c
          refine z_iload_n (i := 3) dX2_split_87 rfl rfl rfl ?_
          refine z_istore_n (i := 1) dX2_split_88 rfl (by decide) (zokd rfl) rfl ?_
          show zt l g (d + 1) M_X2_split 89 [.ref 75, .int r6, .int x2, .int r6] [] s5 _
          refine z_iinc (v := x2 + (1 : Int32)) dX2_split_89 rfl rfl (by decide) (zokd rfl) rfl ?_
          show zt l g (d + 1) M_X2_split 92 [.ref 75, .int r6, .int (x2 + (1 : Int32)), .int r6] [] s5 _
          refine z_goto (pn := 9) dX2_split_92 (by decide) ?_
          refine z_wk (ls' := [.ref 75, .int r6, .int (x2 + (1 : Int32)), zJ]) ⟨Or.inr rfl, Or.inr rfl, Or.inr rfl, Or.inl rfl, trivial⟩ ?_
          exact h
        · have h := zif h c
          refine z_aload_n (i := 0) dX2_split_52 rfl rfl rfl ?_
          refine z_getR (q := 77) f_X2_15 i_75 rfl (r_75_2 (zRok_of hRs5 hR)) (by decide) dX2_split_53 rfl ?_
          refine z_aload_n (i := 0) dX2_split_56 rfl rfl rfl ?_
          refine z_getI (x := s5.1 75 4) rfl f_X2_47 i_75 rfl dX2_split_57 rfl ?_
          refine z_aload_n (i := 0) dX2_split_60 rfl rfl rfl ?_
          refine z_iload_n (i := 1) dX2_split_61 rfl rfl rfl ?_
          refine z_iload_n (i := 3) dX2_split_62 rfl rfl rfl ?_
          refine z_callV k_X2_tokenOf m_X2_54 (zRec_of i_75) rfl h rfl (Nat.le_of_ble_eq_true rfl) dX2_split_63 zy200 rfl ?_
          rintro v s9 ⟨r10, rfl, hRs9, h⟩
          show zt l g (d + 1) M_X2_split 66 [.ref 75, .int x1, .int x2, .int r6] [.int r10, .int (s5.1 75 4), .ref 77] s9 _
          obtain ⟨a11, h⟩ := h
          have wa11 := vin a11
          refine z_iast a_77 a11 dX2_split_66 rfl ?_
          show zt l g (d + 1) M_X2_split 67 [.ref 75, .int x1, .int x2, .int r6] [] (zI s9 77 ((s5.1 75 4).toNatClampNeg) r10) _
          refine z_aload_n (i := 0) dX2_split_67 rfl rfl rfl ?_
          refine z_getR (q := 78) f_X2_18 i_75 rfl (r_75_3 (zRok_of hRs9 (zRok_of hRs5 hR))) (by decide) dX2_split_68 rfl ?_
          refine z_aload_n (i := 0) dX2_split_71 rfl rfl rfl ?_
          refine z_getI (x := s9.1 75 4) (zI_o (by decide)) f_X2_47 i_75 rfl dX2_split_72 rfl ?_
          refine z_iload_n (i := 1) dX2_split_75 rfl rfl rfl ?_
          obtain ⟨a12, h⟩ := h
          have wa12 := vin a12
          refine z_iast a_78 a12 dX2_split_76 rfl ?_
          show zt l g (d + 1) M_X2_split 77 [.ref 75, .int x1, .int x2, .int r6] [] (zI (zI s9 77 ((s5.1 75 4).toNatClampNeg) r10) 78 ((s9.1 75 4).toNatClampNeg) x1) _
          refine z_aload_n (i := 0) dX2_split_77 rfl rfl rfl ?_
          refine z_dup dX2_split_78 rfl rfl ?_
          refine z_getI (x := s9.1 75 4) ((zI_o (by decide)).trans (zI_o (by decide))) f_X2_47 i_75 rfl dX2_split_79 rfl ?_
          refine z_iconst (v := (1 : Int32)) dX2_split_82 (by decide) rfl ?_
          refine z_iadd dX2_split_83 rfl ?_
          refine z_putI f_X2_47 i_75 rfl (Or.inl rfl) rfl rfl dX2_split_84 rfl ?_
          refine z_iload_n (i := 3) dX2_split_87 rfl rfl rfl ?_
          refine z_istore_n (i := 1) dX2_split_88 rfl (by decide) (zokd rfl) rfl ?_
          show zt l g (d + 1) M_X2_split 89 [.ref 75, .int r6, .int x2, .int r6] [] (zI (zI (zI s9 77 ((s5.1 75 4).toNatClampNeg) r10) 78 ((s9.1 75 4).toNatClampNeg) x1) 75 4 ((s9.1 75 4) + (1 : Int32))) _
          refine z_iinc (v := x2 + (1 : Int32)) dX2_split_89 rfl rfl (by decide) (zokd rfl) rfl ?_
          show zt l g (d + 1) M_X2_split 92 [.ref 75, .int r6, .int (x2 + (1 : Int32)), .int r6] [] (zI (zI (zI s9 77 ((s5.1 75 4).toNatClampNeg) r10) 78 ((s9.1 75 4).toNatClampNeg) x1) 75 4 ((s9.1 75 4) + (1 : Int32))) _
          refine z_goto (pn := 9) dX2_split_92 (by decide) ?_
          refine z_wk (ls' := [.ref 75, .int r6, .int (x2 + (1 : Int32)), zJ]) ⟨Or.inr rfl, Or.inr rfl, Or.inr rfl, Or.inl rfl, trivial⟩ ?_
          exact h
theorem dX2_tokenEnd_0 : decode cX2_tokenEnd 0 = .ok (.aload_n 0, 1) := by decide +kernel
theorem dX2_tokenEnd_1 : decode cX2_tokenEnd 1 = .ok (.getfield 9, 3) := by decide +kernel
theorem dX2_tokenEnd_4 : decode cX2_tokenEnd 4 = .ok (.iload_n 1, 1) := by decide +kernel
theorem dX2_tokenEnd_5 : decode cX2_tokenEnd 5 = .ok (.iaload, 1) := by decide +kernel
theorem dX2_tokenEnd_6 : decode cX2_tokenEnd 6 = .ok (.invokestatic 58, 3) := by decide +kernel
theorem dX2_tokenEnd_9 : decode cX2_tokenEnd 9 = .ok (.istore_n 2, 1) := by decide +kernel
theorem dX2_tokenEnd_10 : decode cX2_tokenEnd 10 = .ok (.iload_n 2, 1) := by decide +kernel
theorem dX2_tokenEnd_11 : decode cX2_tokenEnd 11 = .ok (.ifCond .ne 19, 3) := by decide +kernel
theorem dX2_tokenEnd_14 : decode cX2_tokenEnd 14 = .ok (.aload_n 0, 1) := by decide +kernel
theorem dX2_tokenEnd_15 : decode cX2_tokenEnd 15 = .ok (.getfield 9, 3) := by decide +kernel
theorem dX2_tokenEnd_18 : decode cX2_tokenEnd 18 = .ok (.iload_n 1, 1) := by decide +kernel
theorem dX2_tokenEnd_19 : decode cX2_tokenEnd 19 = .ok (.iaload, 1) := by decide +kernel
theorem dX2_tokenEnd_20 : decode cX2_tokenEnd 20 = .ok (.invokestatic 62, 3) := by decide +kernel
theorem dX2_tokenEnd_23 : decode cX2_tokenEnd 23 = .ok (.ifCond .ne 7, 3) := by decide +kernel
theorem dX2_tokenEnd_26 : decode cX2_tokenEnd 26 = .ok (.iload_n 1, 1) := by decide +kernel
theorem dX2_tokenEnd_27 : decode cX2_tokenEnd 27 = .ok (.iconst 1, 1) := by decide +kernel
theorem dX2_tokenEnd_28 : decode cX2_tokenEnd 28 = .ok (.iadd, 1) := by decide +kernel
theorem dX2_tokenEnd_29 : decode cX2_tokenEnd 29 = .ok (.ireturn, 1) := by decide +kernel
theorem dX2_tokenEnd_30 : decode cX2_tokenEnd 30 = .ok (.iload_n 1, 1) := by decide +kernel
theorem dX2_tokenEnd_31 : decode cX2_tokenEnd 31 = .ok (.iconst 1, 1) := by decide +kernel
theorem dX2_tokenEnd_32 : decode cX2_tokenEnd 32 = .ok (.iadd, 1) := by decide +kernel
theorem dX2_tokenEnd_33 : decode cX2_tokenEnd 33 = .ok (.istore_n 3, 1) := by decide +kernel
theorem dX2_tokenEnd_34 : decode cX2_tokenEnd 34 = .ok (.iload_n 3, 1) := by decide +kernel
theorem dX2_tokenEnd_35 : decode cX2_tokenEnd 35 = .ok (.aload_n 0, 1) := by decide +kernel
theorem dX2_tokenEnd_36 : decode cX2_tokenEnd 36 = .ok (.getfield 21, 3) := by decide +kernel
theorem dX2_tokenEnd_39 : decode cX2_tokenEnd 39 = .ok (.if_icmp .ge 40, 3) := by decide +kernel
theorem dX2_tokenEnd_42 : decode cX2_tokenEnd 42 = .ok (.iload_n 2, 1) := by decide +kernel
theorem dX2_tokenEnd_43 : decode cX2_tokenEnd 43 = .ok (.ifCond .eq 18, 3) := by decide +kernel
theorem dX2_tokenEnd_46 : decode cX2_tokenEnd 46 = .ok (.aload_n 0, 1) := by decide +kernel
theorem dX2_tokenEnd_47 : decode cX2_tokenEnd 47 = .ok (.getfield 9, 3) := by decide +kernel
theorem dX2_tokenEnd_50 : decode cX2_tokenEnd 50 = .ok (.iload_n 3, 1) := by decide +kernel
theorem dX2_tokenEnd_51 : decode cX2_tokenEnd 51 = .ok (.iaload, 1) := by decide +kernel
theorem dX2_tokenEnd_52 : decode cX2_tokenEnd 52 = .ok (.invokestatic 58, 3) := by decide +kernel
theorem dX2_tokenEnd_55 : decode cX2_tokenEnd 55 = .ok (.ifCond .eq 24, 3) := by decide +kernel
theorem dX2_tokenEnd_58 : decode cX2_tokenEnd 58 = .ok (.goto 15, 3) := by decide +kernel
theorem dX2_tokenEnd_61 : decode cX2_tokenEnd 61 = .ok (.aload_n 0, 1) := by decide +kernel
theorem dX2_tokenEnd_62 : decode cX2_tokenEnd 62 = .ok (.getfield 9, 3) := by decide +kernel
theorem dX2_tokenEnd_65 : decode cX2_tokenEnd 65 = .ok (.iload_n 3, 1) := by decide +kernel
theorem dX2_tokenEnd_66 : decode cX2_tokenEnd 66 = .ok (.iaload, 1) := by decide +kernel
theorem dX2_tokenEnd_67 : decode cX2_tokenEnd 67 = .ok (.invokestatic 62, 3) := by decide +kernel
theorem dX2_tokenEnd_70 : decode cX2_tokenEnd 70 = .ok (.ifCond .eq 9, 3) := by decide +kernel
theorem dX2_tokenEnd_73 : decode cX2_tokenEnd 73 = .ok (.iinc 3 1, 3) := by decide +kernel
theorem dX2_tokenEnd_76 : decode cX2_tokenEnd 76 = .ok (.goto (-42), 3) := by decide +kernel
theorem dX2_tokenEnd_79 : decode cX2_tokenEnd 79 = .ok (.iload_n 3, 1) := by decide +kernel
theorem dX2_tokenEnd_80 : decode cX2_tokenEnd 80 = .ok (.ireturn, 1) := by decide +kernel
set_option maxHeartbeats 4000000 in
set_option maxRecDepth 100000 in
theorem t_X2_tokenEnd {l : Launch} {g : zG} {d : Nat} {s : zS} (hR : zRok s) {p0 : Int32} {K : Int32 → zS → Prop} (h : (vp_in p0 400 ∧ (zc l g d M_X2_isLetter [.int (s.1 76 p0.toNatClampNeg)] s (zKz (fun b3 s2 => s2.2.2.1 = s.2.2.1 ∧ (if b3 = true then zt l g (d + 1) M_X2_tokenEnd 34 [.ref 75, zJ, .int (zb b3), .int (p0 + (1 : Int32))] [] s2 (zKi K) else (vp_in p0 400 ∧ (zc l g d M_X2_isDigit [.int (s2.1 76 p0.toNatClampNeg)] s2 (zKz (fun b6 s5 => s5.2.2.1 = s2.2.2.1 ∧ (if b6 = true then zt l g (d + 1) M_X2_tokenEnd 34 [.ref 75, zJ, .int (zb b3), .int (p0 + (1 : Int32))] [] s5 (zKi K) else K (p0 + (1 : Int32)) s5))))))))))) : zc l g (d + 1) M_X2_tokenEnd [.ref 75, .int p0] s (zKi K) := by
  refine zCall_of k_X2_tokenEnd (Nat.le_of_ble_eq_true rfl) (Nat.le_refl _) (fun _ => ?_)
  show zt l g (d + 1) M_X2_tokenEnd 0 [.ref 75, .int p0, zJ, zJ] [] s (zKi K)
  refine z_aload_n (i := 0) dX2_tokenEnd_0 rfl rfl rfl ?_
  refine z_getR (q := 76) f_X2_9 i_75 rfl (r_75_0 hR) (by decide) dX2_tokenEnd_1 rfl ?_
  refine z_iload_n (i := 1) dX2_tokenEnd_4 rfl rfl rfl ?_
  obtain ⟨a1, h⟩ := h
  have wa1 := vin a1
  refine z_iald (x := s.1 76 p0.toNatClampNeg) rfl a_76 a1 dX2_tokenEnd_5 rfl ?_
  refine z_callS (as := [.int (s.1 76 p0.toNatClampNeg)]) k_X2_isLetter m_X2_58 rfl h rfl (Nat.le_of_ble_eq_true rfl) dX2_tokenEnd_6 zy200 rfl ?_
  rintro v s2 ⟨b3, rfl, hRs2, h⟩
  show zt l g (d + 1) M_X2_tokenEnd 9 [.ref 75, .int p0, zJ, zJ] [.int (zb b3)] s2 _
  refine z_istore_n (i := 2) dX2_tokenEnd_9 rfl (by decide) (zokd rfl) rfl ?_
  show zt l g (d + 1) M_X2_tokenEnd 10 [.ref 75, .int p0, .int (zb b3), zJ] [] s2 _
  refine z_iload_n (i := 2) dX2_tokenEnd_10 rfl rfl rfl ?_
  refine z_ifb_ne (pt := 30) dX2_tokenEnd_11 (by decide) rfl (fun c => ?_) (fun c => ?_)
  · have h := zit h c
    refine z_iload_n (i := 1) dX2_tokenEnd_30 rfl rfl rfl ?_
    refine z_iconst (v := (1 : Int32)) dX2_tokenEnd_31 (by decide) rfl ?_
    refine z_iadd dX2_tokenEnd_32 rfl ?_
    refine z_istore_n (i := 3) dX2_tokenEnd_33 rfl (by decide) (zokd rfl) rfl ?_
    show zt l g (d + 1) M_X2_tokenEnd 34 [.ref 75, .int p0, .int (zb b3), .int (p0 + (1 : Int32))] [] s2 _
    refine z_wk (ls' := [.ref 75, zJ, .int (zb b3), .int (p0 + (1 : Int32))]) ⟨Or.inr rfl, Or.inl rfl, Or.inr rfl, Or.inr rfl, trivial⟩ ?_
    exact h
  · have h := zif h (by rw [c]; exact Bool.false_ne_true)
    refine z_aload_n (i := 0) dX2_tokenEnd_14 rfl rfl rfl ?_
    refine z_getR (q := 76) f_X2_9 i_75 rfl (r_75_0 (zRok_of hRs2 hR)) (by decide) dX2_tokenEnd_15 rfl ?_
    refine z_iload_n (i := 1) dX2_tokenEnd_18 rfl rfl rfl ?_
    obtain ⟨a4, h⟩ := h
    have wa4 := vin a4
    refine z_iald (x := s2.1 76 p0.toNatClampNeg) rfl a_76 a4 dX2_tokenEnd_19 rfl ?_
    refine z_callS (as := [.int (s2.1 76 p0.toNatClampNeg)]) k_X2_isDigit m_X2_62 rfl h rfl (Nat.le_of_ble_eq_true rfl) dX2_tokenEnd_20 zy200 rfl ?_
    rintro v s5 ⟨b6, rfl, hRs5, h⟩
    show zt l g (d + 1) M_X2_tokenEnd 23 [.ref 75, .int p0, .int (zb b3), zJ] [.int (zb b6)] s5 _
    refine z_ifb_ne (pt := 30) dX2_tokenEnd_23 (by decide) rfl (fun c => ?_) (fun c => ?_)
    · have h := zit h c
      refine z_iload_n (i := 1) dX2_tokenEnd_30 rfl rfl rfl ?_
      refine z_iconst (v := (1 : Int32)) dX2_tokenEnd_31 (by decide) rfl ?_
      refine z_iadd dX2_tokenEnd_32 rfl ?_
      refine z_istore_n (i := 3) dX2_tokenEnd_33 rfl (by decide) (zokd rfl) rfl ?_
      show zt l g (d + 1) M_X2_tokenEnd 34 [.ref 75, .int p0, .int (zb b3), .int (p0 + (1 : Int32))] [] s5 _
      refine z_wk (ls' := [.ref 75, zJ, .int (zb b3), .int (p0 + (1 : Int32))]) ⟨Or.inr rfl, Or.inl rfl, Or.inr rfl, Or.inr rfl, trivial⟩ ?_
      exact h
    · have h := zif h (by rw [c]; exact Bool.false_ne_true)
      refine z_iload_n (i := 1) dX2_tokenEnd_26 rfl rfl rfl ?_
      refine z_iconst (v := (1 : Int32)) dX2_tokenEnd_27 (by decide) rfl ?_
      refine z_iadd dX2_tokenEnd_28 rfl ?_
      exact z_ret (some (.int (p0 + (1 : Int32)))) (Or.inr (Or.inl ⟨_, _, rfl, rfl, rfl, dX2_tokenEnd_29⟩)) zN200 ⟨_, rfl, h⟩
set_option maxHeartbeats 4000000 in
set_option maxRecDepth 100000 in
theorem t_X2_tokenEnd_34 {l : Launch} {g : zG} {d : Nat} {s : zS} (hR : zRok s) {x2 : Int32} {x3 : Int32} {K : Int32 → zS → Prop} (h : (if (s.1 75 1) ≤ x3 then K x3 s else (if x2 = 0 then (vp_in x3 400 ∧ (zc l g d M_X2_isDigit [.int (s.1 76 x3.toNatClampNeg)] s (zKz (fun b3 s2 => s2.2.2.1 = s.2.2.1 ∧ (if b3 = true then zt l g (d + 1) M_X2_tokenEnd 34 [.ref 75, zJ, .int x2, .int (x3 + (1 : Int32))] [] s2 (zKi K) else K x3 s2))))) else (vp_in x3 400 ∧ (zc l g d M_X2_isLetter [.int (s.1 76 x3.toNatClampNeg)] s (zKz (fun b6 s5 => s5.2.2.1 = s.2.2.1 ∧ (if b6 = true then zt l g (d + 1) M_X2_tokenEnd 34 [.ref 75, zJ, .int x2, .int (x3 + (1 : Int32))] [] s5 (zKi K) else K x3 s5)))))))) : zt l g (d + 1) M_X2_tokenEnd 34 [.ref 75, zJ, .int x2, .int x3] [] s (zKi K) := by
  refine z_iload_n (i := 3) dX2_tokenEnd_34 rfl rfl rfl ?_
  refine z_aload_n (i := 0) dX2_tokenEnd_35 rfl rfl rfl ?_
  refine z_getI (x := s.1 75 1) rfl f_X2_21 i_75 rfl dX2_tokenEnd_36 rfl ?_
  refine z_icmp_ge (pt := 79) dX2_tokenEnd_39 (by decide) rfl (fun c => ?_) (fun c => ?_)
  · have h := zit h c
    refine z_iload_n (i := 3) dX2_tokenEnd_79 rfl rfl rfl ?_
    exact z_ret (some (.int x3)) (Or.inr (Or.inl ⟨_, _, rfl, rfl, rfl, dX2_tokenEnd_80⟩)) zN200 ⟨_, rfl, h⟩
  · have h := zif h c
    refine z_iload_n (i := 2) dX2_tokenEnd_42 rfl rfl rfl ?_
    refine z_if_eq (pt := 61) dX2_tokenEnd_43 (by decide) rfl (fun c => ?_) (fun c => ?_)
    · have h := zit h c
      refine z_aload_n (i := 0) dX2_tokenEnd_61 rfl rfl rfl ?_
      refine z_getR (q := 76) f_X2_9 i_75 rfl (r_75_0 hR) (by decide) dX2_tokenEnd_62 rfl ?_
      refine z_iload_n (i := 3) dX2_tokenEnd_65 rfl rfl rfl ?_
      obtain ⟨a1, h⟩ := h
      have wa1 := vin a1
      refine z_iald (x := s.1 76 x3.toNatClampNeg) rfl a_76 a1 dX2_tokenEnd_66 rfl ?_
      refine z_callS (as := [.int (s.1 76 x3.toNatClampNeg)]) k_X2_isDigit m_X2_62 rfl h rfl (Nat.le_of_ble_eq_true rfl) dX2_tokenEnd_67 zy200 rfl ?_
      rintro v s2 ⟨b3, rfl, hRs2, h⟩
      show zt l g (d + 1) M_X2_tokenEnd 70 [.ref 75, zJ, .int x2, .int x3] [.int (zb b3)] s2 _
      refine z_ifb_eq (pt := 79) dX2_tokenEnd_70 (by decide) rfl (fun c => ?_) (fun c => ?_)
      · have h := zif h (by rw [c]; exact Bool.false_ne_true)
        refine z_iload_n (i := 3) dX2_tokenEnd_79 rfl rfl rfl ?_
        exact z_ret (some (.int x3)) (Or.inr (Or.inl ⟨_, _, rfl, rfl, rfl, dX2_tokenEnd_80⟩)) zN200 ⟨_, rfl, h⟩
      · have h := zit h c
        refine z_iinc (v := x3 + (1 : Int32)) dX2_tokenEnd_73 rfl rfl (by decide) (zokd rfl) rfl ?_
        show zt l g (d + 1) M_X2_tokenEnd 76 [.ref 75, zJ, .int x2, .int (x3 + (1 : Int32))] [] s2 _
        refine z_goto (pn := 34) dX2_tokenEnd_76 (by decide) ?_
        exact h
    · have h := zif h c
      refine z_aload_n (i := 0) dX2_tokenEnd_46 rfl rfl rfl ?_
      refine z_getR (q := 76) f_X2_9 i_75 rfl (r_75_0 hR) (by decide) dX2_tokenEnd_47 rfl ?_
      refine z_iload_n (i := 3) dX2_tokenEnd_50 rfl rfl rfl ?_
      obtain ⟨a4, h⟩ := h
      have wa4 := vin a4
      refine z_iald (x := s.1 76 x3.toNatClampNeg) rfl a_76 a4 dX2_tokenEnd_51 rfl ?_
      refine z_callS (as := [.int (s.1 76 x3.toNatClampNeg)]) k_X2_isLetter m_X2_58 rfl h rfl (Nat.le_of_ble_eq_true rfl) dX2_tokenEnd_52 zy200 rfl ?_
      rintro v s5 ⟨b6, rfl, hRs5, h⟩
      show zt l g (d + 1) M_X2_tokenEnd 55 [.ref 75, zJ, .int x2, .int x3] [.int (zb b6)] s5 _
      refine z_ifb_eq (pt := 79) dX2_tokenEnd_55 (by decide) rfl (fun c => ?_) (fun c => ?_)
      · have h := zif h (by rw [c]; exact Bool.false_ne_true)
        refine z_iload_n (i := 3) dX2_tokenEnd_79 rfl rfl rfl ?_
        exact z_ret (some (.int x3)) (Or.inr (Or.inl ⟨_, _, rfl, rfl, rfl, dX2_tokenEnd_80⟩)) zN200 ⟨_, rfl, h⟩
      · have h := zit h c
        refine z_goto (pn := 73) dX2_tokenEnd_58 (by decide) ?_
        refine z_iinc (v := x3 + (1 : Int32)) dX2_tokenEnd_73 rfl rfl (by decide) (zokd rfl) rfl ?_
        show zt l g (d + 1) M_X2_tokenEnd 76 [.ref 75, zJ, .int x2, .int (x3 + (1 : Int32))] [] s5 _
        refine z_goto (pn := 34) dX2_tokenEnd_76 (by decide) ?_
        exact h
theorem dX2_isLetter_0 : decode cX2_isLetter 0 = .ok (.iload_n 0, 1) := by decide +kernel
theorem dX2_isLetter_1 : decode cX2_isLetter 1 = .ok (.bipush 97, 2) := by decide +kernel
theorem dX2_isLetter_3 : decode cX2_isLetter 3 = .ok (.if_icmp .lt 13, 3) := by decide +kernel
theorem dX2_isLetter_6 : decode cX2_isLetter 6 = .ok (.iload_n 0, 1) := by decide +kernel
theorem dX2_isLetter_7 : decode cX2_isLetter 7 = .ok (.bipush 122, 2) := by decide +kernel
theorem dX2_isLetter_9 : decode cX2_isLetter 9 = .ok (.if_icmp .gt 7, 3) := by decide +kernel
theorem dX2_isLetter_12 : decode cX2_isLetter 12 = .ok (.iconst 1, 1) := by decide +kernel
theorem dX2_isLetter_13 : decode cX2_isLetter 13 = .ok (.goto 4, 3) := by decide +kernel
theorem dX2_isLetter_16 : decode cX2_isLetter 16 = .ok (.iconst 0, 1) := by decide +kernel
theorem dX2_isLetter_17 : decode cX2_isLetter 17 = .ok (.ireturn, 1) := by decide +kernel
set_option maxHeartbeats 4000000 in
set_option maxRecDepth 100000 in
theorem t_X2_isLetter {l : Launch} {g : zG} {d : Nat} {s : zS} (hR : zRok s) {p0 : Int32} {K : Bool → zS → Prop} (h : (if p0 < (97 : Int32) then K false s else (if (122 : Int32) < p0 then K false s else K true s))) : zc l g d M_X2_isLetter [.int p0] s (zKz K) := by
  refine zCall_of k_X2_isLetter (Nat.le_of_ble_eq_true rfl) (Nat.le_refl _) (fun _ => ?_)
  show zt l g d M_X2_isLetter 0 [.int p0] [] s (zKz K)
  refine z_iload_n (i := 0) dX2_isLetter_0 rfl rfl rfl ?_
  refine z_bipush (v := (97 : Int32)) dX2_isLetter_1 (by decide) rfl ?_
  refine z_icmp_lt (pt := 16) dX2_isLetter_3 (by decide) rfl (fun c => ?_) (fun c => ?_)
  · have h := zit h c
    refine z_iconst (v := (0 : Int32)) dX2_isLetter_16 (by decide) rfl ?_
    exact z_ret (some (.int (zb false))) (Or.inr (Or.inl ⟨_, _, rfl, rfl, zb_nar _, dX2_isLetter_17⟩)) zN200 ⟨_, rfl, h⟩
  · have h := zif h c
    refine z_iload_n (i := 0) dX2_isLetter_6 rfl rfl rfl ?_
    refine z_bipush (v := (122 : Int32)) dX2_isLetter_7 (by decide) rfl ?_
    refine z_icmp_gt (pt := 16) dX2_isLetter_9 (by decide) rfl (fun c => ?_) (fun c => ?_)
    · have h := zit h c
      refine z_iconst (v := (0 : Int32)) dX2_isLetter_16 (by decide) rfl ?_
      exact z_ret (some (.int (zb false))) (Or.inr (Or.inl ⟨_, _, rfl, rfl, zb_nar _, dX2_isLetter_17⟩)) zN200 ⟨_, rfl, h⟩
    · have h := zif h c
      refine z_iconst (v := (1 : Int32)) dX2_isLetter_12 (by decide) rfl ?_
      refine z_goto (pn := 17) dX2_isLetter_13 (by decide) ?_
      exact z_ret (some (.int (zb true))) (Or.inr (Or.inl ⟨_, _, rfl, rfl, zb_nar _, dX2_isLetter_17⟩)) zN200 ⟨_, rfl, h⟩
theorem dX2_isDigit_0 : decode cX2_isDigit 0 = .ok (.iload_n 0, 1) := by decide +kernel
theorem dX2_isDigit_1 : decode cX2_isDigit 1 = .ok (.bipush 48, 2) := by decide +kernel
theorem dX2_isDigit_3 : decode cX2_isDigit 3 = .ok (.if_icmp .lt 13, 3) := by decide +kernel
theorem dX2_isDigit_6 : decode cX2_isDigit 6 = .ok (.iload_n 0, 1) := by decide +kernel
theorem dX2_isDigit_7 : decode cX2_isDigit 7 = .ok (.bipush 57, 2) := by decide +kernel
theorem dX2_isDigit_9 : decode cX2_isDigit 9 = .ok (.if_icmp .gt 7, 3) := by decide +kernel
theorem dX2_isDigit_12 : decode cX2_isDigit 12 = .ok (.iconst 1, 1) := by decide +kernel
theorem dX2_isDigit_13 : decode cX2_isDigit 13 = .ok (.goto 4, 3) := by decide +kernel
theorem dX2_isDigit_16 : decode cX2_isDigit 16 = .ok (.iconst 0, 1) := by decide +kernel
theorem dX2_isDigit_17 : decode cX2_isDigit 17 = .ok (.ireturn, 1) := by decide +kernel
set_option maxHeartbeats 4000000 in
set_option maxRecDepth 100000 in
theorem t_X2_isDigit {l : Launch} {g : zG} {d : Nat} {s : zS} (hR : zRok s) {p0 : Int32} {K : Bool → zS → Prop} (h : (if p0 < (48 : Int32) then K false s else (if (57 : Int32) < p0 then K false s else K true s))) : zc l g d M_X2_isDigit [.int p0] s (zKz K) := by
  refine zCall_of k_X2_isDigit (Nat.le_of_ble_eq_true rfl) (Nat.le_refl _) (fun _ => ?_)
  show zt l g d M_X2_isDigit 0 [.int p0] [] s (zKz K)
  refine z_iload_n (i := 0) dX2_isDigit_0 rfl rfl rfl ?_
  refine z_bipush (v := (48 : Int32)) dX2_isDigit_1 (by decide) rfl ?_
  refine z_icmp_lt (pt := 16) dX2_isDigit_3 (by decide) rfl (fun c => ?_) (fun c => ?_)
  · have h := zit h c
    refine z_iconst (v := (0 : Int32)) dX2_isDigit_16 (by decide) rfl ?_
    exact z_ret (some (.int (zb false))) (Or.inr (Or.inl ⟨_, _, rfl, rfl, zb_nar _, dX2_isDigit_17⟩)) zN200 ⟨_, rfl, h⟩
  · have h := zif h c
    refine z_iload_n (i := 0) dX2_isDigit_6 rfl rfl rfl ?_
    refine z_bipush (v := (57 : Int32)) dX2_isDigit_7 (by decide) rfl ?_
    refine z_icmp_gt (pt := 16) dX2_isDigit_9 (by decide) rfl (fun c => ?_) (fun c => ?_)
    · have h := zit h c
      refine z_iconst (v := (0 : Int32)) dX2_isDigit_16 (by decide) rfl ?_
      exact z_ret (some (.int (zb false))) (Or.inr (Or.inl ⟨_, _, rfl, rfl, zb_nar _, dX2_isDigit_17⟩)) zN200 ⟨_, rfl, h⟩
    · have h := zif h c
      refine z_iconst (v := (1 : Int32)) dX2_isDigit_12 (by decide) rfl ?_
      refine z_goto (pn := 17) dX2_isDigit_13 (by decide) ?_
      exact z_ret (some (.int (zb true))) (Or.inr (Or.inl ⟨_, _, rfl, rfl, zb_nar _, dX2_isDigit_17⟩)) zN200 ⟨_, rfl, h⟩
theorem dX2_tokenOf_0 : decode cX2_tokenOf 0 = .ok (.aload_n 0, 1) := by decide +kernel
theorem dX2_tokenOf_1 : decode cX2_tokenOf 1 = .ok (.getfield 9, 3) := by decide +kernel
theorem dX2_tokenOf_4 : decode cX2_tokenOf 4 = .ok (.iload_n 1, 1) := by decide +kernel
theorem dX2_tokenOf_5 : decode cX2_tokenOf 5 = .ok (.iaload, 1) := by decide +kernel
theorem dX2_tokenOf_6 : decode cX2_tokenOf 6 = .ok (.invokestatic 58, 3) := by decide +kernel
theorem dX2_tokenOf_9 : decode cX2_tokenOf 9 = .ok (.ifCond .eq 10, 3) := by decide +kernel
theorem dX2_tokenOf_12 : decode cX2_tokenOf 12 = .ok (.aload_n 0, 1) := by decide +kernel
theorem dX2_tokenOf_13 : decode cX2_tokenOf 13 = .ok (.iload_n 1, 1) := by decide +kernel
theorem dX2_tokenOf_14 : decode cX2_tokenOf 14 = .ok (.iload_n 2, 1) := by decide +kernel
theorem dX2_tokenOf_15 : decode cX2_tokenOf 15 = .ok (.invokevirtual 65, 3) := by decide +kernel
theorem dX2_tokenOf_18 : decode cX2_tokenOf 18 = .ok (.ireturn, 1) := by decide +kernel
theorem dX2_tokenOf_19 : decode cX2_tokenOf 19 = .ok (.aload_n 0, 1) := by decide +kernel
theorem dX2_tokenOf_20 : decode cX2_tokenOf 20 = .ok (.getfield 9, 3) := by decide +kernel
theorem dX2_tokenOf_23 : decode cX2_tokenOf 23 = .ok (.iload_n 1, 1) := by decide +kernel
theorem dX2_tokenOf_24 : decode cX2_tokenOf 24 = .ok (.iaload, 1) := by decide +kernel
theorem dX2_tokenOf_25 : decode cX2_tokenOf 25 = .ok (.invokestatic 62, 3) := by decide +kernel
theorem dX2_tokenOf_28 : decode cX2_tokenOf 28 = .ok (.ifCond .eq 10, 3) := by decide +kernel
theorem dX2_tokenOf_31 : decode cX2_tokenOf 31 = .ok (.aload_n 0, 1) := by decide +kernel
theorem dX2_tokenOf_32 : decode cX2_tokenOf 32 = .ok (.iload_n 1, 1) := by decide +kernel
theorem dX2_tokenOf_33 : decode cX2_tokenOf 33 = .ok (.iload_n 2, 1) := by decide +kernel
theorem dX2_tokenOf_34 : decode cX2_tokenOf 34 = .ok (.invokevirtual 68, 3) := by decide +kernel
theorem dX2_tokenOf_37 : decode cX2_tokenOf 37 = .ok (.ireturn, 1) := by decide +kernel
theorem dX2_tokenOf_38 : decode cX2_tokenOf 38 = .ok (.ldc 71, 2) := by decide +kernel
theorem dX2_tokenOf_40 : decode cX2_tokenOf 40 = .ok (.aload_n 0, 1) := by decide +kernel
theorem dX2_tokenOf_41 : decode cX2_tokenOf 41 = .ok (.getfield 9, 3) := by decide +kernel
theorem dX2_tokenOf_44 : decode cX2_tokenOf 44 = .ok (.iload_n 1, 1) := by decide +kernel
theorem dX2_tokenOf_45 : decode cX2_tokenOf 45 = .ok (.iaload, 1) := by decide +kernel
theorem dX2_tokenOf_46 : decode cX2_tokenOf 46 = .ok (.i2c, 1) := by decide +kernel
theorem dX2_tokenOf_47 : decode cX2_tokenOf 47 = .ok (.invokevirtual 73, 3) := by decide +kernel
theorem dX2_tokenOf_50 : decode cX2_tokenOf 50 = .ok (.ifCond .lt 16, 3) := by decide +kernel
theorem dX2_tokenOf_53 : decode cX2_tokenOf 53 = .ok (.sipush 20000, 3) := by decide +kernel
theorem dX2_tokenOf_56 : decode cX2_tokenOf 56 = .ok (.aload_n 0, 1) := by decide +kernel
theorem dX2_tokenOf_57 : decode cX2_tokenOf 57 = .ok (.getfield 9, 3) := by decide +kernel
theorem dX2_tokenOf_60 : decode cX2_tokenOf 60 = .ok (.iload_n 1, 1) := by decide +kernel
theorem dX2_tokenOf_61 : decode cX2_tokenOf 61 = .ok (.iaload, 1) := by decide +kernel
theorem dX2_tokenOf_62 : decode cX2_tokenOf 62 = .ok (.iadd, 1) := by decide +kernel
theorem dX2_tokenOf_63 : decode cX2_tokenOf 63 = .ok (.goto 6, 3) := by decide +kernel
theorem dX2_tokenOf_66 : decode cX2_tokenOf 66 = .ok (.sipush 30001, 3) := by decide +kernel
theorem dX2_tokenOf_69 : decode cX2_tokenOf 69 = .ok (.ireturn, 1) := by decide +kernel
set_option maxHeartbeats 4000000 in
set_option maxRecDepth 100000 in
theorem t_X2_tokenOf {l : Launch} {g : zG} {d : Nat} {s : zS} (hR : zRok s) {p0 : Int32} {p1 : Int32} {K : Int32 → zS → Prop} (h : (vp_in p0 400 ∧ (zc l g (d + 4) M_X2_isLetter [.int (s.1 76 p0.toNatClampNeg)] s (zKz (fun b3 s2 => s2.2.2.1 = s.2.2.1 ∧ (if b3 = true then (zc l g (d + 4) M_X2_wordOf [.ref 75, .int p0, .int p1] s2 (zKi (fun r12 s11 => s11.2.2.1 = s2.2.2.1 ∧ K r12 s11))) else (vp_in p0 400 ∧ (zc l g (d + 4) M_X2_isDigit [.int (s2.1 76 p0.toNatClampNeg)] s2 (zKz (fun b6 s5 => s5.2.2.1 = s2.2.2.1 ∧ (if b6 = true then (zc l g (d + 4) M_X2_numberOf [.ref 75, .int p0, .int p1] s5 (zKi (fun r10 s9 => s9.2.2.1 = s5.2.2.1 ∧ K r10 s9))) else (vp_in p0 400 ∧ (if (zsix 1 (((s5.1 76 p0.toNatClampNeg).toUInt32 % 65536).toInt32)) < 0 then K (30001 : Int32) s5 else (vp_in p0 400 ∧ K ((20000 : Int32) + (s5.1 76 p0.toNatClampNeg)) s5)))))))))))))) : zc l g (d + 5) M_X2_tokenOf [.ref 75, .int p0, .int p1] s (zKi K) := by
  refine zCall_of k_X2_tokenOf (Nat.le_of_ble_eq_true rfl) (Nat.le_refl _) (fun _ => ?_)
  show zt l g (d + 5) M_X2_tokenOf 0 [.ref 75, .int p0, .int p1] [] s (zKi K)
  refine z_aload_n (i := 0) dX2_tokenOf_0 rfl rfl rfl ?_
  refine z_getR (q := 76) f_X2_9 i_75 rfl (r_75_0 hR) (by decide) dX2_tokenOf_1 rfl ?_
  refine z_iload_n (i := 1) dX2_tokenOf_4 rfl rfl rfl ?_
  obtain ⟨a1, h⟩ := h
  have wa1 := vin a1
  refine z_iald (x := s.1 76 p0.toNatClampNeg) rfl a_76 a1 dX2_tokenOf_5 rfl ?_
  refine z_callS (as := [.int (s.1 76 p0.toNatClampNeg)]) k_X2_isLetter m_X2_58 rfl h rfl (Nat.le_of_ble_eq_true rfl) dX2_tokenOf_6 zy200 rfl ?_
  rintro v s2 ⟨b3, rfl, hRs2, h⟩
  show zt l g (d + 5) M_X2_tokenOf 9 [.ref 75, .int p0, .int p1] [.int (zb b3)] s2 _
  refine z_ifb_eq (pt := 19) dX2_tokenOf_9 (by decide) rfl (fun c => ?_) (fun c => ?_)
  · have h := zif h (by rw [c]; exact Bool.false_ne_true)
    refine z_aload_n (i := 0) dX2_tokenOf_19 rfl rfl rfl ?_
    refine z_getR (q := 76) f_X2_9 i_75 rfl (r_75_0 (zRok_of hRs2 hR)) (by decide) dX2_tokenOf_20 rfl ?_
    refine z_iload_n (i := 1) dX2_tokenOf_23 rfl rfl rfl ?_
    obtain ⟨a4, h⟩ := h
    have wa4 := vin a4
    refine z_iald (x := s2.1 76 p0.toNatClampNeg) rfl a_76 a4 dX2_tokenOf_24 rfl ?_
    refine z_callS (as := [.int (s2.1 76 p0.toNatClampNeg)]) k_X2_isDigit m_X2_62 rfl h rfl (Nat.le_of_ble_eq_true rfl) dX2_tokenOf_25 zy200 rfl ?_
    rintro v s5 ⟨b6, rfl, hRs5, h⟩
    show zt l g (d + 5) M_X2_tokenOf 28 [.ref 75, .int p0, .int p1] [.int (zb b6)] s5 _
    refine z_ifb_eq (pt := 38) dX2_tokenOf_28 (by decide) rfl (fun c => ?_) (fun c => ?_)
    · have h := zif h (by rw [c]; exact Bool.false_ne_true)
      refine z_ldcS (i := 1) (by decide) rfl rfl dX2_tokenOf_38 rfl ?_
      refine z_aload_n (i := 0) dX2_tokenOf_40 rfl rfl rfl ?_
      refine z_getR (q := 76) f_X2_9 i_75 rfl (r_75_0 (zRok_of hRs5 (zRok_of hRs2 hR))) (by decide) dX2_tokenOf_41 rfl ?_
      refine z_iload_n (i := 1) dX2_tokenOf_44 rfl rfl rfl ?_
      obtain ⟨a7, h⟩ := h
      have wa7 := vin a7
      refine z_iald (x := s5.1 76 p0.toNatClampNeg) rfl a_76 a7 dX2_tokenOf_45 rfl ?_
      refine z_i2c dX2_tokenOf_46 rfl ?_
      refine z_sidx m_X2_73 (by decide : 1 < 20) dX2_tokenOf_47 (Nat.le_of_ble_eq_true rfl) rfl ?_
      refine z_if_lt (pt := 66) dX2_tokenOf_50 (by decide) rfl (fun c => ?_) (fun c => ?_)
      · have h := zit h c
        refine z_sipush (v := (30001 : Int32)) dX2_tokenOf_66 (by decide) rfl ?_
        exact z_ret (some (.int (30001 : Int32))) (Or.inr (Or.inl ⟨_, _, rfl, rfl, rfl, dX2_tokenOf_69⟩)) zN200 ⟨_, rfl, h⟩
      · have h := zif h c
        refine z_sipush (v := (20000 : Int32)) dX2_tokenOf_53 (by decide) rfl ?_
        refine z_aload_n (i := 0) dX2_tokenOf_56 rfl rfl rfl ?_
        refine z_getR (q := 76) f_X2_9 i_75 rfl (r_75_0 (zRok_of hRs5 (zRok_of hRs2 hR))) (by decide) dX2_tokenOf_57 rfl ?_
        refine z_iload_n (i := 1) dX2_tokenOf_60 rfl rfl rfl ?_
        obtain ⟨a8, h⟩ := h
        have wa8 := vin a8
        refine z_iald (x := s5.1 76 p0.toNatClampNeg) rfl a_76 a8 dX2_tokenOf_61 rfl ?_
        refine z_iadd dX2_tokenOf_62 rfl ?_
        refine z_goto (pn := 69) dX2_tokenOf_63 (by decide) ?_
        exact z_ret (some (.int ((20000 : Int32) + (s5.1 76 p0.toNatClampNeg)))) (Or.inr (Or.inl ⟨_, _, rfl, rfl, rfl, dX2_tokenOf_69⟩)) zN200 ⟨_, rfl, h⟩
    · have h := zit h c
      refine z_aload_n (i := 0) dX2_tokenOf_31 rfl rfl rfl ?_
      refine z_iload_n (i := 1) dX2_tokenOf_32 rfl rfl rfl ?_
      refine z_iload_n (i := 2) dX2_tokenOf_33 rfl rfl rfl ?_
      refine z_callV k_X2_numberOf m_X2_68 (zRec_of i_75) rfl h rfl (Nat.le_of_ble_eq_true rfl) dX2_tokenOf_34 zy200 rfl ?_
      rintro v s9 ⟨r10, rfl, hRs9, h⟩
      show zt l g (d + 5) M_X2_tokenOf 37 [.ref 75, .int p0, .int p1] [.int r10] s9 _
      exact z_ret (some (.int r10)) (Or.inr (Or.inl ⟨_, _, rfl, rfl, rfl, dX2_tokenOf_37⟩)) zN200 ⟨_, rfl, h⟩
  · have h := zit h c
    refine z_aload_n (i := 0) dX2_tokenOf_12 rfl rfl rfl ?_
    refine z_iload_n (i := 1) dX2_tokenOf_13 rfl rfl rfl ?_
    refine z_iload_n (i := 2) dX2_tokenOf_14 rfl rfl rfl ?_
    refine z_callV k_X2_wordOf m_X2_65 (zRec_of i_75) rfl h rfl (Nat.le_of_ble_eq_true rfl) dX2_tokenOf_15 zy200 rfl ?_
    rintro v s11 ⟨r12, rfl, hRs11, h⟩
    show zt l g (d + 5) M_X2_tokenOf 18 [.ref 75, .int p0, .int p1] [.int r12] s11 _
    exact z_ret (some (.int r12)) (Or.inr (Or.inl ⟨_, _, rfl, rfl, rfl, dX2_tokenOf_18⟩)) zN200 ⟨_, rfl, h⟩
theorem dX2_numberOf_0 : decode cX2_numberOf 0 = .ok (.iconst 0, 1) := by decide +kernel
theorem dX2_numberOf_1 : decode cX2_numberOf 1 = .ok (.istore_n 3, 1) := by decide +kernel
theorem dX2_numberOf_2 : decode cX2_numberOf 2 = .ok (.iload_n 1, 1) := by decide +kernel
theorem dX2_numberOf_3 : decode cX2_numberOf 3 = .ok (.istore 4, 2) := by decide +kernel
theorem dX2_numberOf_5 : decode cX2_numberOf 5 = .ok (.iload 4, 2) := by decide +kernel
theorem dX2_numberOf_7 : decode cX2_numberOf 7 = .ok (.iload_n 2, 1) := by decide +kernel
theorem dX2_numberOf_8 : decode cX2_numberOf 8 = .ok (.if_icmp .ge 31, 3) := by decide +kernel
theorem dX2_numberOf_11 : decode cX2_numberOf 11 = .ok (.iload_n 3, 1) := by decide +kernel
theorem dX2_numberOf_12 : decode cX2_numberOf 12 = .ok (.bipush 10, 2) := by decide +kernel
theorem dX2_numberOf_14 : decode cX2_numberOf 14 = .ok (.imul, 1) := by decide +kernel
theorem dX2_numberOf_15 : decode cX2_numberOf 15 = .ok (.aload_n 0, 1) := by decide +kernel
theorem dX2_numberOf_16 : decode cX2_numberOf 16 = .ok (.getfield 9, 3) := by decide +kernel
theorem dX2_numberOf_19 : decode cX2_numberOf 19 = .ok (.iload 4, 2) := by decide +kernel
theorem dX2_numberOf_21 : decode cX2_numberOf 21 = .ok (.iaload, 1) := by decide +kernel
theorem dX2_numberOf_22 : decode cX2_numberOf 22 = .ok (.iadd, 1) := by decide +kernel
theorem dX2_numberOf_23 : decode cX2_numberOf 23 = .ok (.bipush 48, 2) := by decide +kernel
theorem dX2_numberOf_25 : decode cX2_numberOf 25 = .ok (.isub, 1) := by decide +kernel
theorem dX2_numberOf_26 : decode cX2_numberOf 26 = .ok (.sipush 10000, 3) := by decide +kernel
theorem dX2_numberOf_29 : decode cX2_numberOf 29 = .ok (.invokestatic 78, 3) := by decide +kernel
theorem dX2_numberOf_32 : decode cX2_numberOf 32 = .ok (.istore_n 3, 1) := by decide +kernel
theorem dX2_numberOf_33 : decode cX2_numberOf 33 = .ok (.iinc 4 1, 3) := by decide +kernel
theorem dX2_numberOf_36 : decode cX2_numberOf 36 = .ok (.goto (-31), 3) := by decide +kernel
theorem dX2_numberOf_39 : decode cX2_numberOf 39 = .ok (.iload_n 3, 1) := by decide +kernel
theorem dX2_numberOf_40 : decode cX2_numberOf 40 = .ok (.sipush 9999, 3) := by decide +kernel
theorem dX2_numberOf_43 : decode cX2_numberOf 43 = .ok (.if_icmp .gt 7, 3) := by decide +kernel
theorem dX2_numberOf_46 : decode cX2_numberOf 46 = .ok (.iload_n 3, 1) := by decide +kernel
theorem dX2_numberOf_47 : decode cX2_numberOf 47 = .ok (.goto 6, 3) := by decide +kernel
theorem dX2_numberOf_50 : decode cX2_numberOf 50 = .ok (.sipush 30001, 3) := by decide +kernel
theorem dX2_numberOf_53 : decode cX2_numberOf 53 = .ok (.ireturn, 1) := by decide +kernel
set_option maxHeartbeats 4000000 in
set_option maxRecDepth 100000 in
theorem t_X2_numberOf {l : Launch} {g : zG} {d : Nat} {s : zS} (hR : zRok s) {p0 : Int32} {p1 : Int32} {K : Int32 → zS → Prop} (h : zt l g (d + 1) M_X2_numberOf 5 [.ref 75, zJ, .int p1, .int (0 : Int32), .int p0] [] s (zKi K)) : zc l g (d + 1) M_X2_numberOf [.ref 75, .int p0, .int p1] s (zKi K) := by
  refine zCall_of k_X2_numberOf (Nat.le_of_ble_eq_true rfl) (Nat.le_refl _) (fun _ => ?_)
  show zt l g (d + 1) M_X2_numberOf 0 [.ref 75, .int p0, .int p1, zJ, zJ] [] s (zKi K)
  refine z_iconst (v := (0 : Int32)) dX2_numberOf_0 (by decide) rfl ?_
  refine z_istore_n (i := 3) dX2_numberOf_1 rfl (by decide) (zokd rfl) rfl ?_
  show zt l g (d + 1) M_X2_numberOf 2 [.ref 75, .int p0, .int p1, .int (0 : Int32), zJ] [] s _
  refine z_iload_n (i := 1) dX2_numberOf_2 rfl rfl rfl ?_
  refine z_istore dX2_numberOf_3 (by decide) (zokd rfl) rfl ?_
  show zt l g (d + 1) M_X2_numberOf 5 [.ref 75, .int p0, .int p1, .int (0 : Int32), .int p0] [] s _
  refine z_wk (ls' := [.ref 75, zJ, .int p1, .int (0 : Int32), .int p0]) ⟨Or.inr rfl, Or.inl rfl, Or.inr rfl, Or.inr rfl, Or.inr rfl, trivial⟩ ?_
  exact h
set_option maxHeartbeats 4000000 in
set_option maxRecDepth 100000 in
theorem t_X2_numberOf_5 {l : Launch} {g : zG} {d : Nat} {s : zS} (hR : zRok s) {x2 : Int32} {x3 : Int32} {x4 : Int32} {K : Int32 → zS → Prop} (h : (if x2 ≤ x4 then (if (9999 : Int32) < x3 then K (30001 : Int32) s else K x3 s) else (vp_in x4 400 ∧ (∀ v2 : Int32, v2 = zmin (((x3 * (10 : Int32)) + (s.1 76 x4.toNatClampNeg)) - (48 : Int32)) (10000 : Int32) → zt l g (d + 1) M_X2_numberOf 5 [.ref 75, zJ, .int x2, .int v2, .int (x4 + (1 : Int32))] [] s (zKi K))))) : zt l g (d + 1) M_X2_numberOf 5 [.ref 75, zJ, .int x2, .int x3, .int x4] [] s (zKi K) := by
  refine z_iload dX2_numberOf_5 rfl rfl ?_
  refine z_iload_n (i := 2) dX2_numberOf_7 rfl rfl rfl ?_
  refine z_icmp_ge (pt := 39) dX2_numberOf_8 (by decide) rfl (fun c => ?_) (fun c => ?_)
  · have h := zit h c
    refine z_iload_n (i := 3) dX2_numberOf_39 rfl rfl rfl ?_
    refine z_sipush (v := (9999 : Int32)) dX2_numberOf_40 (by decide) rfl ?_
    refine z_icmp_gt (pt := 50) dX2_numberOf_43 (by decide) rfl (fun c => ?_) (fun c => ?_)
    · have h := zit h c
      refine z_sipush (v := (30001 : Int32)) dX2_numberOf_50 (by decide) rfl ?_
      exact z_ret (some (.int (30001 : Int32))) (Or.inr (Or.inl ⟨_, _, rfl, rfl, rfl, dX2_numberOf_53⟩)) zN200 ⟨_, rfl, h⟩
    · have h := zif h c
      refine z_iload_n (i := 3) dX2_numberOf_46 rfl rfl rfl ?_
      refine z_goto (pn := 53) dX2_numberOf_47 (by decide) ?_
      exact z_ret (some (.int x3)) (Or.inr (Or.inl ⟨_, _, rfl, rfl, rfl, dX2_numberOf_53⟩)) zN200 ⟨_, rfl, h⟩
  · have h := zif h c
    refine z_iload_n (i := 3) dX2_numberOf_11 rfl rfl rfl ?_
    refine z_bipush (v := (10 : Int32)) dX2_numberOf_12 (by decide) rfl ?_
    refine z_imul dX2_numberOf_14 rfl ?_
    refine z_aload_n (i := 0) dX2_numberOf_15 rfl rfl rfl ?_
    refine z_getR (q := 76) f_X2_9 i_75 rfl (r_75_0 hR) (by decide) dX2_numberOf_16 rfl ?_
    refine z_iload dX2_numberOf_19 rfl rfl ?_
    obtain ⟨a1, h⟩ := h
    have wa1 := vin a1
    refine z_iald (x := s.1 76 x4.toNatClampNeg) rfl a_76 a1 dX2_numberOf_21 rfl ?_
    refine z_iadd dX2_numberOf_22 rfl ?_
    refine z_bipush (v := (48 : Int32)) dX2_numberOf_23 (by decide) rfl ?_
    refine z_isub dX2_numberOf_25 rfl ?_
    refine z_sipush (v := (10000 : Int32)) dX2_numberOf_26 (by decide) rfl ?_
    refine z_mmin m_X2_78 dX2_numberOf_29 (Nat.le_of_ble_eq_true rfl) rfl ?_
    refine z_istore_n (i := 3) dX2_numberOf_32 rfl (by decide) (zokd rfl) rfl ?_
    obtain ⟨v2, ev2⟩ : ∃ x : Int32, x = zmin (((x3 * (10 : Int32)) + (s.1 76 x4.toNatClampNeg)) - (48 : Int32)) (10000 : Int32) := ⟨_, rfl⟩
    rw [← ev2]
    have h := h v2 ev2
    show zt l g (d + 1) M_X2_numberOf 33 [.ref 75, zJ, .int x2, .int v2, .int x4] [] s _
    refine z_iinc (v := x4 + (1 : Int32)) dX2_numberOf_33 rfl rfl (by decide) (zokd rfl) rfl ?_
    show zt l g (d + 1) M_X2_numberOf 36 [.ref 75, zJ, .int x2, .int v2, .int (x4 + (1 : Int32))] [] s _
    refine z_goto (pn := 5) dX2_numberOf_36 (by decide) ?_
    exact h
theorem dX2_wordOf_0 : decode cX2_wordOf 0 = .ok (.sipush 10000, 3) := by decide +kernel
theorem dX2_wordOf_3 : decode cX2_wordOf 3 = .ok (.istore_n 3, 1) := by decide +kernel
theorem dX2_wordOf_4 : decode cX2_wordOf 4 = .ok (.iload_n 1, 1) := by decide +kernel
theorem dX2_wordOf_5 : decode cX2_wordOf 5 = .ok (.istore 4, 2) := by decide +kernel
theorem dX2_wordOf_7 : decode cX2_wordOf 7 = .ok (.iconst 1, 1) := by decide +kernel
theorem dX2_wordOf_8 : decode cX2_wordOf 8 = .ok (.istore 5, 2) := by decide +kernel
theorem dX2_wordOf_10 : decode cX2_wordOf 10 = .ok (.iconst 0, 1) := by decide +kernel
theorem dX2_wordOf_11 : decode cX2_wordOf 11 = .ok (.istore 6, 2) := by decide +kernel
theorem dX2_wordOf_13 : decode cX2_wordOf 13 = .ok (.iload 6, 2) := by decide +kernel
theorem dX2_wordOf_15 : decode cX2_wordOf 15 = .ok (.ldc 83, 2) := by decide +kernel
theorem dX2_wordOf_17 : decode cX2_wordOf 17 = .ok (.invokevirtual 85, 3) := by decide +kernel
theorem dX2_wordOf_20 : decode cX2_wordOf 20 = .ok (.if_icmp .ge 83, 3) := by decide +kernel
theorem dX2_wordOf_23 : decode cX2_wordOf 23 = .ok (.ldc 83, 2) := by decide +kernel
theorem dX2_wordOf_25 : decode cX2_wordOf 25 = .ok (.iload 6, 2) := by decide +kernel
theorem dX2_wordOf_27 : decode cX2_wordOf 27 = .ok (.invokevirtual 87, 3) := by decide +kernel
theorem dX2_wordOf_30 : decode cX2_wordOf 30 = .ok (.istore 7, 2) := by decide +kernel
theorem dX2_wordOf_32 : decode cX2_wordOf 32 = .ok (.iload 7, 2) := by decide +kernel
theorem dX2_wordOf_34 : decode cX2_wordOf 34 = .ok (.bipush 32, 2) := by decide +kernel
theorem dX2_wordOf_36 : decode cX2_wordOf 36 = .ok (.if_icmp .ne 28, 3) := by decide +kernel
theorem dX2_wordOf_39 : decode cX2_wordOf 39 = .ok (.iload 5, 2) := by decide +kernel
theorem dX2_wordOf_41 : decode cX2_wordOf 41 = .ok (.ifCond .eq 11, 3) := by decide +kernel
theorem dX2_wordOf_44 : decode cX2_wordOf 44 = .ok (.iload 4, 2) := by decide +kernel
theorem dX2_wordOf_46 : decode cX2_wordOf 46 = .ok (.iload_n 2, 1) := by decide +kernel
theorem dX2_wordOf_47 : decode cX2_wordOf 47 = .ok (.if_icmp .ne 5, 3) := by decide +kernel
theorem dX2_wordOf_50 : decode cX2_wordOf 50 = .ok (.iload_n 3, 1) := by decide +kernel
theorem dX2_wordOf_51 : decode cX2_wordOf 51 = .ok (.ireturn, 1) := by decide +kernel
theorem dX2_wordOf_52 : decode cX2_wordOf 52 = .ok (.iinc 3 1, 3) := by decide +kernel
theorem dX2_wordOf_55 : decode cX2_wordOf 55 = .ok (.iload_n 1, 1) := by decide +kernel
theorem dX2_wordOf_56 : decode cX2_wordOf 56 = .ok (.istore 4, 2) := by decide +kernel
theorem dX2_wordOf_58 : decode cX2_wordOf 58 = .ok (.iconst 1, 1) := by decide +kernel
theorem dX2_wordOf_59 : decode cX2_wordOf 59 = .ok (.istore 5, 2) := by decide +kernel
theorem dX2_wordOf_61 : decode cX2_wordOf 61 = .ok (.goto 36, 3) := by decide +kernel
theorem dX2_wordOf_64 : decode cX2_wordOf 64 = .ok (.iload 5, 2) := by decide +kernel
theorem dX2_wordOf_66 : decode cX2_wordOf 66 = .ok (.ifCond .eq 25, 3) := by decide +kernel
theorem dX2_wordOf_69 : decode cX2_wordOf 69 = .ok (.iload 4, 2) := by decide +kernel
theorem dX2_wordOf_71 : decode cX2_wordOf 71 = .ok (.iload_n 2, 1) := by decide +kernel
theorem dX2_wordOf_72 : decode cX2_wordOf 72 = .ok (.if_icmp .ge 19, 3) := by decide +kernel
theorem dX2_wordOf_75 : decode cX2_wordOf 75 = .ok (.aload_n 0, 1) := by decide +kernel
theorem dX2_wordOf_76 : decode cX2_wordOf 76 = .ok (.getfield 9, 3) := by decide +kernel
theorem dX2_wordOf_79 : decode cX2_wordOf 79 = .ok (.iload 4, 2) := by decide +kernel
theorem dX2_wordOf_81 : decode cX2_wordOf 81 = .ok (.iaload, 1) := by decide +kernel
theorem dX2_wordOf_82 : decode cX2_wordOf 82 = .ok (.iload 7, 2) := by decide +kernel
theorem dX2_wordOf_84 : decode cX2_wordOf 84 = .ok (.if_icmp .ne 7, 3) := by decide +kernel
theorem dX2_wordOf_87 : decode cX2_wordOf 87 = .ok (.iconst 1, 1) := by decide +kernel
theorem dX2_wordOf_88 : decode cX2_wordOf 88 = .ok (.goto 4, 3) := by decide +kernel
theorem dX2_wordOf_91 : decode cX2_wordOf 91 = .ok (.iconst 0, 1) := by decide +kernel
theorem dX2_wordOf_92 : decode cX2_wordOf 92 = .ok (.istore 5, 2) := by decide +kernel
theorem dX2_wordOf_94 : decode cX2_wordOf 94 = .ok (.iinc 4 1, 3) := by decide +kernel
theorem dX2_wordOf_97 : decode cX2_wordOf 97 = .ok (.iinc 6 1, 3) := by decide +kernel
theorem dX2_wordOf_100 : decode cX2_wordOf 100 = .ok (.goto (-87), 3) := by decide +kernel
theorem dX2_wordOf_103 : decode cX2_wordOf 103 = .ok (.sipush 30001, 3) := by decide +kernel
theorem dX2_wordOf_106 : decode cX2_wordOf 106 = .ok (.ireturn, 1) := by decide +kernel
set_option maxHeartbeats 4000000 in
set_option maxRecDepth 100000 in
theorem t_X2_wordOf {l : Launch} {g : zG} {d : Nat} {s : zS} (hR : zRok s) {p0 : Int32} {p1 : Int32} {K : Int32 → zS → Prop} (h : zt l g (d + 5) M_X2_wordOf 13 [.ref 75, .int p0, .int p1, .int (10000 : Int32), .int p0, .int (1 : Int32), .int (0 : Int32), zJ] [] s (zKi K)) : zc l g (d + 5) M_X2_wordOf [.ref 75, .int p0, .int p1] s (zKi K) := by
  refine zCall_of k_X2_wordOf (Nat.le_of_ble_eq_true rfl) (Nat.le_refl _) (fun _ => ?_)
  show zt l g (d + 5) M_X2_wordOf 0 [.ref 75, .int p0, .int p1, zJ, zJ, zJ, zJ, zJ] [] s (zKi K)
  refine z_sipush (v := (10000 : Int32)) dX2_wordOf_0 (by decide) rfl ?_
  refine z_istore_n (i := 3) dX2_wordOf_3 rfl (by decide) (zokd rfl) rfl ?_
  show zt l g (d + 5) M_X2_wordOf 4 [.ref 75, .int p0, .int p1, .int (10000 : Int32), zJ, zJ, zJ, zJ] [] s _
  refine z_iload_n (i := 1) dX2_wordOf_4 rfl rfl rfl ?_
  refine z_istore dX2_wordOf_5 (by decide) (zokd rfl) rfl ?_
  show zt l g (d + 5) M_X2_wordOf 7 [.ref 75, .int p0, .int p1, .int (10000 : Int32), .int p0, zJ, zJ, zJ] [] s _
  refine z_iconst (v := (1 : Int32)) dX2_wordOf_7 (by decide) rfl ?_
  refine z_istore dX2_wordOf_8 (by decide) (zokd rfl) rfl ?_
  show zt l g (d + 5) M_X2_wordOf 10 [.ref 75, .int p0, .int p1, .int (10000 : Int32), .int p0, .int (1 : Int32), zJ, zJ] [] s _
  refine z_iconst (v := (0 : Int32)) dX2_wordOf_10 (by decide) rfl ?_
  refine z_istore dX2_wordOf_11 (by decide) (zokd rfl) rfl ?_
  show zt l g (d + 5) M_X2_wordOf 13 [.ref 75, .int p0, .int p1, .int (10000 : Int32), .int p0, .int (1 : Int32), .int (0 : Int32), zJ] [] s _
  exact h
set_option maxHeartbeats 4000000 in
set_option maxRecDepth 100000 in
theorem t_X2_wordOf_13 {l : Launch} {g : zG} {d : Nat} {s : zS} (hR : zRok s) {x1 : Int32} {x2 : Int32} {x3 : Int32} {x4 : Int32} {x5 : Int32} {x6 : Int32} {K : Int32 → zS → Prop} (h : (if (zslen 0) ≤ x6 then K (30001 : Int32) s else (vp_in x6 (zSl.getD 0 0) ∧ (if (zsch 0 x6.toNatClampNeg) = (32 : Int32) then (if x5 = 0 then zt l g (d + 5) M_X2_wordOf 13 [.ref 75, .int x1, .int x2, .int (x3 + (1 : Int32)), .int x1, .int (1 : Int32), .int (x6 + (1 : Int32)), zJ] [] s (zKi K) else (if x4 = x2 then K x3 s else zt l g (d + 5) M_X2_wordOf 13 [.ref 75, .int x1, .int x2, .int (x3 + (1 : Int32)), .int x1, .int (1 : Int32), .int (x6 + (1 : Int32)), zJ] [] s (zKi K))) else (if x5 = 0 then zt l g (d + 5) M_X2_wordOf 13 [.ref 75, .int x1, .int x2, .int x3, .int (x4 + (1 : Int32)), .int (0 : Int32), .int (x6 + (1 : Int32)), zJ] [] s (zKi K) else (if x2 ≤ x4 then zt l g (d + 5) M_X2_wordOf 13 [.ref 75, .int x1, .int x2, .int x3, .int (x4 + (1 : Int32)), .int (0 : Int32), .int (x6 + (1 : Int32)), zJ] [] s (zKi K) else (vp_in x4 400 ∧ (if (s.1 76 x4.toNatClampNeg) = (zsch 0 x6.toNatClampNeg) then zt l g (d + 5) M_X2_wordOf 13 [.ref 75, .int x1, .int x2, .int x3, .int (x4 + (1 : Int32)), .int (1 : Int32), .int (x6 + (1 : Int32)), zJ] [] s (zKi K) else zt l g (d + 5) M_X2_wordOf 13 [.ref 75, .int x1, .int x2, .int x3, .int (x4 + (1 : Int32)), .int (0 : Int32), .int (x6 + (1 : Int32)), zJ] [] s (zKi K))))))))) : zt l g (d + 5) M_X2_wordOf 13 [.ref 75, .int x1, .int x2, .int x3, .int x4, .int x5, .int x6, zJ] [] s (zKi K) := by
  refine z_iload dX2_wordOf_13 rfl rfl ?_
  refine z_ldcS (i := 0) (by decide) rfl rfl dX2_wordOf_15 rfl ?_
  refine z_slen m_X2_85 (by decide : 0 < 20) dX2_wordOf_17 (Nat.le_of_ble_eq_true rfl) rfl ?_
  refine z_icmp_ge (pt := 103) dX2_wordOf_20 (by decide) rfl (fun c => ?_) (fun c => ?_)
  · have h := zit h c
    refine z_sipush (v := (30001 : Int32)) dX2_wordOf_103 (by decide) rfl ?_
    exact z_ret (some (.int (30001 : Int32))) (Or.inr (Or.inl ⟨_, _, rfl, rfl, rfl, dX2_wordOf_106⟩)) zN200 ⟨_, rfl, h⟩
  · have h := zif h c
    refine z_ldcS (i := 0) (by decide) rfl rfl dX2_wordOf_23 rfl ?_
    refine z_iload dX2_wordOf_25 rfl rfl ?_
    obtain ⟨a1, h⟩ := h
    refine z_schar m_X2_87 (by decide : 0 < 20) a1 dX2_wordOf_27 (Nat.le_of_ble_eq_true rfl) rfl ?_
    refine z_istore dX2_wordOf_30 (by decide) (zokd rfl) rfl ?_
    show zt l g (d + 5) M_X2_wordOf 32 [.ref 75, .int x1, .int x2, .int x3, .int x4, .int x5, .int x6, .int (zsch 0 x6.toNatClampNeg)] [] s _
    refine z_iload dX2_wordOf_32 rfl rfl ?_
    refine z_bipush (v := (32 : Int32)) dX2_wordOf_34 (by decide) rfl ?_
    refine z_icmp_ne (pt := 64) dX2_wordOf_36 (by decide) rfl (fun c => ?_) (fun c => ?_)
    · have h := zif h c
      refine z_iload dX2_wordOf_64 rfl rfl ?_
      refine z_if_eq (pt := 91) dX2_wordOf_66 (by decide) rfl (fun c => ?_) (fun c => ?_)
      · have h := zit h c
        refine z_iconst (v := (0 : Int32)) dX2_wordOf_91 (by decide) rfl ?_
        refine z_istore dX2_wordOf_92 (by decide) (zokd rfl) rfl ?_
        show zt l g (d + 5) M_X2_wordOf 94 [.ref 75, .int x1, .int x2, .int x3, .int x4, .int (0 : Int32), .int x6, .int (zsch 0 x6.toNatClampNeg)] [] s _
        refine z_iinc (v := x4 + (1 : Int32)) dX2_wordOf_94 rfl rfl (by decide) (zokd rfl) rfl ?_
        show zt l g (d + 5) M_X2_wordOf 97 [.ref 75, .int x1, .int x2, .int x3, .int (x4 + (1 : Int32)), .int (0 : Int32), .int x6, .int (zsch 0 x6.toNatClampNeg)] [] s _
        refine z_iinc (v := x6 + (1 : Int32)) dX2_wordOf_97 rfl rfl (by decide) (zokd rfl) rfl ?_
        show zt l g (d + 5) M_X2_wordOf 100 [.ref 75, .int x1, .int x2, .int x3, .int (x4 + (1 : Int32)), .int (0 : Int32), .int (x6 + (1 : Int32)), .int (zsch 0 x6.toNatClampNeg)] [] s _
        refine z_goto (pn := 13) dX2_wordOf_100 (by decide) ?_
        refine z_wk (ls' := [.ref 75, .int x1, .int x2, .int x3, .int (x4 + (1 : Int32)), .int (0 : Int32), .int (x6 + (1 : Int32)), zJ]) ⟨Or.inr rfl, Or.inr rfl, Or.inr rfl, Or.inr rfl, Or.inr rfl, Or.inr rfl, Or.inr rfl, Or.inl rfl, trivial⟩ ?_
        exact h
      · have h := zif h c
        refine z_iload dX2_wordOf_69 rfl rfl ?_
        refine z_iload_n (i := 2) dX2_wordOf_71 rfl rfl rfl ?_
        refine z_icmp_ge (pt := 91) dX2_wordOf_72 (by decide) rfl (fun c => ?_) (fun c => ?_)
        · have h := zit h c
          refine z_iconst (v := (0 : Int32)) dX2_wordOf_91 (by decide) rfl ?_
          refine z_istore dX2_wordOf_92 (by decide) (zokd rfl) rfl ?_
          show zt l g (d + 5) M_X2_wordOf 94 [.ref 75, .int x1, .int x2, .int x3, .int x4, .int (0 : Int32), .int x6, .int (zsch 0 x6.toNatClampNeg)] [] s _
          refine z_iinc (v := x4 + (1 : Int32)) dX2_wordOf_94 rfl rfl (by decide) (zokd rfl) rfl ?_
          show zt l g (d + 5) M_X2_wordOf 97 [.ref 75, .int x1, .int x2, .int x3, .int (x4 + (1 : Int32)), .int (0 : Int32), .int x6, .int (zsch 0 x6.toNatClampNeg)] [] s _
          refine z_iinc (v := x6 + (1 : Int32)) dX2_wordOf_97 rfl rfl (by decide) (zokd rfl) rfl ?_
          show zt l g (d + 5) M_X2_wordOf 100 [.ref 75, .int x1, .int x2, .int x3, .int (x4 + (1 : Int32)), .int (0 : Int32), .int (x6 + (1 : Int32)), .int (zsch 0 x6.toNatClampNeg)] [] s _
          refine z_goto (pn := 13) dX2_wordOf_100 (by decide) ?_
          refine z_wk (ls' := [.ref 75, .int x1, .int x2, .int x3, .int (x4 + (1 : Int32)), .int (0 : Int32), .int (x6 + (1 : Int32)), zJ]) ⟨Or.inr rfl, Or.inr rfl, Or.inr rfl, Or.inr rfl, Or.inr rfl, Or.inr rfl, Or.inr rfl, Or.inl rfl, trivial⟩ ?_
          exact h
        · have h := zif h c
          refine z_aload_n (i := 0) dX2_wordOf_75 rfl rfl rfl ?_
          refine z_getR (q := 76) f_X2_9 i_75 rfl (r_75_0 hR) (by decide) dX2_wordOf_76 rfl ?_
          refine z_iload dX2_wordOf_79 rfl rfl ?_
          obtain ⟨a2, h⟩ := h
          have wa2 := vin a2
          refine z_iald (x := s.1 76 x4.toNatClampNeg) rfl a_76 a2 dX2_wordOf_81 rfl ?_
          refine z_iload dX2_wordOf_82 rfl rfl ?_
          refine z_icmp_ne (pt := 91) dX2_wordOf_84 (by decide) rfl (fun c => ?_) (fun c => ?_)
          · have h := zif h c
            refine z_iconst (v := (0 : Int32)) dX2_wordOf_91 (by decide) rfl ?_
            refine z_istore dX2_wordOf_92 (by decide) (zokd rfl) rfl ?_
            show zt l g (d + 5) M_X2_wordOf 94 [.ref 75, .int x1, .int x2, .int x3, .int x4, .int (0 : Int32), .int x6, .int (zsch 0 x6.toNatClampNeg)] [] s _
            refine z_iinc (v := x4 + (1 : Int32)) dX2_wordOf_94 rfl rfl (by decide) (zokd rfl) rfl ?_
            show zt l g (d + 5) M_X2_wordOf 97 [.ref 75, .int x1, .int x2, .int x3, .int (x4 + (1 : Int32)), .int (0 : Int32), .int x6, .int (zsch 0 x6.toNatClampNeg)] [] s _
            refine z_iinc (v := x6 + (1 : Int32)) dX2_wordOf_97 rfl rfl (by decide) (zokd rfl) rfl ?_
            show zt l g (d + 5) M_X2_wordOf 100 [.ref 75, .int x1, .int x2, .int x3, .int (x4 + (1 : Int32)), .int (0 : Int32), .int (x6 + (1 : Int32)), .int (zsch 0 x6.toNatClampNeg)] [] s _
            refine z_goto (pn := 13) dX2_wordOf_100 (by decide) ?_
            refine z_wk (ls' := [.ref 75, .int x1, .int x2, .int x3, .int (x4 + (1 : Int32)), .int (0 : Int32), .int (x6 + (1 : Int32)), zJ]) ⟨Or.inr rfl, Or.inr rfl, Or.inr rfl, Or.inr rfl, Or.inr rfl, Or.inr rfl, Or.inr rfl, Or.inl rfl, trivial⟩ ?_
            exact h
          · have h := zit h c
            refine z_iconst (v := (1 : Int32)) dX2_wordOf_87 (by decide) rfl ?_
            refine z_goto (pn := 92) dX2_wordOf_88 (by decide) ?_
            refine z_istore dX2_wordOf_92 (by decide) (zokd rfl) rfl ?_
            show zt l g (d + 5) M_X2_wordOf 94 [.ref 75, .int x1, .int x2, .int x3, .int x4, .int (1 : Int32), .int x6, .int (zsch 0 x6.toNatClampNeg)] [] s _
            refine z_iinc (v := x4 + (1 : Int32)) dX2_wordOf_94 rfl rfl (by decide) (zokd rfl) rfl ?_
            show zt l g (d + 5) M_X2_wordOf 97 [.ref 75, .int x1, .int x2, .int x3, .int (x4 + (1 : Int32)), .int (1 : Int32), .int x6, .int (zsch 0 x6.toNatClampNeg)] [] s _
            refine z_iinc (v := x6 + (1 : Int32)) dX2_wordOf_97 rfl rfl (by decide) (zokd rfl) rfl ?_
            show zt l g (d + 5) M_X2_wordOf 100 [.ref 75, .int x1, .int x2, .int x3, .int (x4 + (1 : Int32)), .int (1 : Int32), .int (x6 + (1 : Int32)), .int (zsch 0 x6.toNatClampNeg)] [] s _
            refine z_goto (pn := 13) dX2_wordOf_100 (by decide) ?_
            refine z_wk (ls' := [.ref 75, .int x1, .int x2, .int x3, .int (x4 + (1 : Int32)), .int (1 : Int32), .int (x6 + (1 : Int32)), zJ]) ⟨Or.inr rfl, Or.inr rfl, Or.inr rfl, Or.inr rfl, Or.inr rfl, Or.inr rfl, Or.inr rfl, Or.inl rfl, trivial⟩ ?_
            exact h
    · have h := zit h c
      refine z_iload dX2_wordOf_39 rfl rfl ?_
      refine z_if_eq (pt := 52) dX2_wordOf_41 (by decide) rfl (fun c => ?_) (fun c => ?_)
      · have h := zit h c
        refine z_iinc (v := x3 + (1 : Int32)) dX2_wordOf_52 rfl rfl (by decide) (zokd rfl) rfl ?_
        show zt l g (d + 5) M_X2_wordOf 55 [.ref 75, .int x1, .int x2, .int (x3 + (1 : Int32)), .int x4, .int x5, .int x6, .int (zsch 0 x6.toNatClampNeg)] [] s _
        refine z_iload_n (i := 1) dX2_wordOf_55 rfl rfl rfl ?_
        refine z_istore dX2_wordOf_56 (by decide) (zokd rfl) rfl ?_
        show zt l g (d + 5) M_X2_wordOf 58 [.ref 75, .int x1, .int x2, .int (x3 + (1 : Int32)), .int x1, .int x5, .int x6, .int (zsch 0 x6.toNatClampNeg)] [] s _
        refine z_iconst (v := (1 : Int32)) dX2_wordOf_58 (by decide) rfl ?_
        refine z_istore dX2_wordOf_59 (by decide) (zokd rfl) rfl ?_
        show zt l g (d + 5) M_X2_wordOf 61 [.ref 75, .int x1, .int x2, .int (x3 + (1 : Int32)), .int x1, .int (1 : Int32), .int x6, .int (zsch 0 x6.toNatClampNeg)] [] s _
        refine z_goto (pn := 97) dX2_wordOf_61 (by decide) ?_
        refine z_iinc (v := x6 + (1 : Int32)) dX2_wordOf_97 rfl rfl (by decide) (zokd rfl) rfl ?_
        show zt l g (d + 5) M_X2_wordOf 100 [.ref 75, .int x1, .int x2, .int (x3 + (1 : Int32)), .int x1, .int (1 : Int32), .int (x6 + (1 : Int32)), .int (zsch 0 x6.toNatClampNeg)] [] s _
        refine z_goto (pn := 13) dX2_wordOf_100 (by decide) ?_
        refine z_wk (ls' := [.ref 75, .int x1, .int x2, .int (x3 + (1 : Int32)), .int x1, .int (1 : Int32), .int (x6 + (1 : Int32)), zJ]) ⟨Or.inr rfl, Or.inr rfl, Or.inr rfl, Or.inr rfl, Or.inr rfl, Or.inr rfl, Or.inr rfl, Or.inl rfl, trivial⟩ ?_
        exact h
      · have h := zif h c
        refine z_iload dX2_wordOf_44 rfl rfl ?_
        refine z_iload_n (i := 2) dX2_wordOf_46 rfl rfl rfl ?_
        refine z_icmp_ne (pt := 52) dX2_wordOf_47 (by decide) rfl (fun c => ?_) (fun c => ?_)
        · have h := zif h c
          refine z_iinc (v := x3 + (1 : Int32)) dX2_wordOf_52 rfl rfl (by decide) (zokd rfl) rfl ?_
          show zt l g (d + 5) M_X2_wordOf 55 [.ref 75, .int x1, .int x2, .int (x3 + (1 : Int32)), .int x4, .int x5, .int x6, .int (zsch 0 x6.toNatClampNeg)] [] s _
          refine z_iload_n (i := 1) dX2_wordOf_55 rfl rfl rfl ?_
          refine z_istore dX2_wordOf_56 (by decide) (zokd rfl) rfl ?_
          show zt l g (d + 5) M_X2_wordOf 58 [.ref 75, .int x1, .int x2, .int (x3 + (1 : Int32)), .int x1, .int x5, .int x6, .int (zsch 0 x6.toNatClampNeg)] [] s _
          refine z_iconst (v := (1 : Int32)) dX2_wordOf_58 (by decide) rfl ?_
          refine z_istore dX2_wordOf_59 (by decide) (zokd rfl) rfl ?_
          show zt l g (d + 5) M_X2_wordOf 61 [.ref 75, .int x1, .int x2, .int (x3 + (1 : Int32)), .int x1, .int (1 : Int32), .int x6, .int (zsch 0 x6.toNatClampNeg)] [] s _
          refine z_goto (pn := 97) dX2_wordOf_61 (by decide) ?_
          refine z_iinc (v := x6 + (1 : Int32)) dX2_wordOf_97 rfl rfl (by decide) (zokd rfl) rfl ?_
          show zt l g (d + 5) M_X2_wordOf 100 [.ref 75, .int x1, .int x2, .int (x3 + (1 : Int32)), .int x1, .int (1 : Int32), .int (x6 + (1 : Int32)), .int (zsch 0 x6.toNatClampNeg)] [] s _
          refine z_goto (pn := 13) dX2_wordOf_100 (by decide) ?_
          refine z_wk (ls' := [.ref 75, .int x1, .int x2, .int (x3 + (1 : Int32)), .int x1, .int (1 : Int32), .int (x6 + (1 : Int32)), zJ]) ⟨Or.inr rfl, Or.inr rfl, Or.inr rfl, Or.inr rfl, Or.inr rfl, Or.inr rfl, Or.inr rfl, Or.inl rfl, trivial⟩ ?_
          exact h
        · have h := zit h c
          refine z_iload_n (i := 3) dX2_wordOf_50 rfl rfl rfl ?_
          exact z_ret (some (.int x3)) (Or.inr (Or.inl ⟨_, _, rfl, rfl, rfl, dX2_wordOf_51⟩)) zN200 ⟨_, rfl, h⟩
theorem dX2_token_0 : decode cX2_token 0 = .ok (.aload_n 0, 1) := by decide +kernel
theorem dX2_token_1 : decode cX2_token 1 = .ok (.getfield 33, 3) := by decide +kernel
theorem dX2_token_4 : decode cX2_token 4 = .ok (.aload_n 0, 1) := by decide +kernel
theorem dX2_token_5 : decode cX2_token 5 = .ok (.getfield 47, 3) := by decide +kernel
theorem dX2_token_8 : decode cX2_token 8 = .ok (.if_icmp .ge 15, 3) := by decide +kernel
theorem dX2_token_11 : decode cX2_token 11 = .ok (.aload_n 0, 1) := by decide +kernel
theorem dX2_token_12 : decode cX2_token 12 = .ok (.getfield 15, 3) := by decide +kernel
theorem dX2_token_15 : decode cX2_token 15 = .ok (.aload_n 0, 1) := by decide +kernel
theorem dX2_token_16 : decode cX2_token 16 = .ok (.getfield 33, 3) := by decide +kernel
theorem dX2_token_19 : decode cX2_token 19 = .ok (.iaload, 1) := by decide +kernel
theorem dX2_token_20 : decode cX2_token 20 = .ok (.goto 6, 3) := by decide +kernel
theorem dX2_token_23 : decode cX2_token 23 = .ok (.sipush 30000, 3) := by decide +kernel
theorem dX2_token_26 : decode cX2_token 26 = .ok (.ireturn, 1) := by decide +kernel
set_option maxHeartbeats 4000000 in
set_option maxRecDepth 100000 in
theorem t_X2_token {l : Launch} {g : zG} {d : Nat} {s : zS} (hR : zRok s)  {K : Int32 → zS → Prop} (h : (if (s.1 75 4) ≤ (s.1 75 5) then K (30000 : Int32) s else (vp_in (s.1 75 5) 401 ∧ K (s.1 77 ((s.1 75 5).toNatClampNeg)) s))) : zc l g d M_X2_token [.ref 75] s (zKi K) := by
  refine zCall_of k_X2_token (Nat.le_of_ble_eq_true rfl) (Nat.le_refl _) (fun _ => ?_)
  show zt l g d M_X2_token 0 [.ref 75] [] s (zKi K)
  refine z_aload_n (i := 0) dX2_token_0 rfl rfl rfl ?_
  refine z_getI (x := s.1 75 5) rfl f_X2_33 i_75 rfl dX2_token_1 rfl ?_
  refine z_aload_n (i := 0) dX2_token_4 rfl rfl rfl ?_
  refine z_getI (x := s.1 75 4) rfl f_X2_47 i_75 rfl dX2_token_5 rfl ?_
  refine z_icmp_ge (pt := 23) dX2_token_8 (by decide) rfl (fun c => ?_) (fun c => ?_)
  · have h := zit h c
    refine z_sipush (v := (30000 : Int32)) dX2_token_23 (by decide) rfl ?_
    exact z_ret (some (.int (30000 : Int32))) (Or.inr (Or.inl ⟨_, _, rfl, rfl, rfl, dX2_token_26⟩)) zN200 ⟨_, rfl, h⟩
  · have h := zif h c
    refine z_aload_n (i := 0) dX2_token_11 rfl rfl rfl ?_
    refine z_getR (q := 77) f_X2_15 i_75 rfl (r_75_2 hR) (by decide) dX2_token_12 rfl ?_
    refine z_aload_n (i := 0) dX2_token_15 rfl rfl rfl ?_
    refine z_getI (x := s.1 75 5) rfl f_X2_33 i_75 rfl dX2_token_16 rfl ?_
    obtain ⟨a1, h⟩ := h
    have wa1 := vin a1
    refine z_iald (x := s.1 77 ((s.1 75 5).toNatClampNeg)) rfl a_77 a1 dX2_token_19 rfl ?_
    refine z_goto (pn := 26) dX2_token_20 (by decide) ?_
    exact z_ret (some (.int (s.1 77 ((s.1 75 5).toNatClampNeg)))) (Or.inr (Or.inl ⟨_, _, rfl, rfl, rfl, dX2_token_26⟩)) zN200 ⟨_, rfl, h⟩
theorem dX2_take_0 : decode cX2_take 0 = .ok (.aload_n 0, 1) := by decide +kernel
theorem dX2_take_1 : decode cX2_take 1 = .ok (.getfield 33, 3) := by decide +kernel
theorem dX2_take_4 : decode cX2_take 4 = .ok (.aload_n 0, 1) := by decide +kernel
theorem dX2_take_5 : decode cX2_take 5 = .ok (.getfield 47, 3) := by decide +kernel
theorem dX2_take_8 : decode cX2_take 8 = .ok (.if_icmp .ge 16, 3) := by decide +kernel
theorem dX2_take_11 : decode cX2_take 11 = .ok (.aload_n 0, 1) := by decide +kernel
theorem dX2_take_12 : decode cX2_take 12 = .ok (.getfield 15, 3) := by decide +kernel
theorem dX2_take_15 : decode cX2_take 15 = .ok (.aload_n 0, 1) := by decide +kernel
theorem dX2_take_16 : decode cX2_take 16 = .ok (.getfield 33, 3) := by decide +kernel
theorem dX2_take_19 : decode cX2_take 19 = .ok (.iaload, 1) := by decide +kernel
theorem dX2_take_20 : decode cX2_take 20 = .ok (.iload_n 1, 1) := by decide +kernel
theorem dX2_take_21 : decode cX2_take 21 = .ok (.if_icmp .eq 5, 3) := by decide +kernel
theorem dX2_take_24 : decode cX2_take 24 = .ok (.iconst 0, 1) := by decide +kernel
theorem dX2_take_25 : decode cX2_take 25 = .ok (.ireturn, 1) := by decide +kernel
theorem dX2_take_26 : decode cX2_take 26 = .ok (.aload_n 0, 1) := by decide +kernel
theorem dX2_take_27 : decode cX2_take 27 = .ok (.dup, 1) := by decide +kernel
theorem dX2_take_28 : decode cX2_take 28 = .ok (.getfield 33, 3) := by decide +kernel
theorem dX2_take_31 : decode cX2_take 31 = .ok (.iconst 1, 1) := by decide +kernel
theorem dX2_take_32 : decode cX2_take 32 = .ok (.iadd, 1) := by decide +kernel
theorem dX2_take_33 : decode cX2_take 33 = .ok (.putfield 33, 3) := by decide +kernel
theorem dX2_take_36 : decode cX2_take 36 = .ok (.iconst 1, 1) := by decide +kernel
theorem dX2_take_37 : decode cX2_take 37 = .ok (.ireturn, 1) := by decide +kernel
set_option maxHeartbeats 4000000 in
set_option maxRecDepth 100000 in
theorem t_X2_take {l : Launch} {g : zG} {d : Nat} {s : zS} (hR : zRok s) {p0 : Int32} {K : Bool → zS → Prop} (h : (if (s.1 75 4) ≤ (s.1 75 5) then K false s else (vp_in (s.1 75 5) 401 ∧ (if (s.1 77 ((s.1 75 5).toNatClampNeg)) = p0 then K true (zI s 75 5 ((s.1 75 5) + (1 : Int32))) else K false s)))) : zc l g d M_X2_take [.ref 75, .int p0] s (zKz K) := by
  refine zCall_of k_X2_take (Nat.le_of_ble_eq_true rfl) (Nat.le_refl _) (fun _ => ?_)
  show zt l g d M_X2_take 0 [.ref 75, .int p0] [] s (zKz K)
  refine z_aload_n (i := 0) dX2_take_0 rfl rfl rfl ?_
  refine z_getI (x := s.1 75 5) rfl f_X2_33 i_75 rfl dX2_take_1 rfl ?_
  refine z_aload_n (i := 0) dX2_take_4 rfl rfl rfl ?_
  refine z_getI (x := s.1 75 4) rfl f_X2_47 i_75 rfl dX2_take_5 rfl ?_
  refine z_icmp_ge (pt := 24) dX2_take_8 (by decide) rfl (fun c => ?_) (fun c => ?_)
  · have h := zit h c
    refine z_iconst (v := (0 : Int32)) dX2_take_24 (by decide) rfl ?_
    exact z_ret (some (.int (zb false))) (Or.inr (Or.inl ⟨_, _, rfl, rfl, zb_nar _, dX2_take_25⟩)) zN200 ⟨_, rfl, h⟩
  · have h := zif h c
    refine z_aload_n (i := 0) dX2_take_11 rfl rfl rfl ?_
    refine z_getR (q := 77) f_X2_15 i_75 rfl (r_75_2 hR) (by decide) dX2_take_12 rfl ?_
    refine z_aload_n (i := 0) dX2_take_15 rfl rfl rfl ?_
    refine z_getI (x := s.1 75 5) rfl f_X2_33 i_75 rfl dX2_take_16 rfl ?_
    obtain ⟨a1, h⟩ := h
    have wa1 := vin a1
    refine z_iald (x := s.1 77 ((s.1 75 5).toNatClampNeg)) rfl a_77 a1 dX2_take_19 rfl ?_
    refine z_iload_n (i := 1) dX2_take_20 rfl rfl rfl ?_
    refine z_icmp_eq (pt := 26) dX2_take_21 (by decide) rfl (fun c => ?_) (fun c => ?_)
    · have h := zit h c
      refine z_aload_n (i := 0) dX2_take_26 rfl rfl rfl ?_
      refine z_dup dX2_take_27 rfl rfl ?_
      refine z_getI (x := s.1 75 5) rfl f_X2_33 i_75 rfl dX2_take_28 rfl ?_
      refine z_iconst (v := (1 : Int32)) dX2_take_31 (by decide) rfl ?_
      refine z_iadd dX2_take_32 rfl ?_
      refine z_putI f_X2_33 i_75 rfl (Or.inl rfl) rfl rfl dX2_take_33 rfl ?_
      refine z_iconst (v := (1 : Int32)) dX2_take_36 (by decide) rfl ?_
      exact z_ret (some (.int (zb true))) (Or.inr (Or.inl ⟨_, _, rfl, rfl, zb_nar _, dX2_take_37⟩)) zN200 ⟨_, rfl, h⟩
    · have h := zif h c
      refine z_iconst (v := (0 : Int32)) dX2_take_24 (by decide) rfl ?_
      exact z_ret (some (.int (zb false))) (Or.inr (Or.inl ⟨_, _, rfl, rfl, zb_nar _, dX2_take_25⟩)) zN200 ⟨_, rfl, h⟩
theorem dX2_readLine_0 : decode cX2_readLine 0 = .ok (.aload_n 1, 1) := by decide +kernel
theorem dX2_readLine_1 : decode cX2_readLine 1 = .ok (.getfield 91, 3) := by decide +kernel
theorem dX2_readLine_4 : decode cX2_readLine 4 = .ok (.istore_n 2, 1) := by decide +kernel
theorem dX2_readLine_5 : decode cX2_readLine 5 = .ok (.aload_n 0, 1) := by decide +kernel
theorem dX2_readLine_6 : decode cX2_readLine 6 = .ok (.invokevirtual 36, 3) := by decide +kernel
theorem dX2_readLine_9 : decode cX2_readLine 9 = .ok (.sipush 10000, 3) := by decide +kernel
theorem dX2_readLine_12 : decode cX2_readLine 12 = .ok (.if_icmp .ne 44, 3) := by decide +kernel
theorem dX2_readLine_15 : decode cX2_readLine 15 = .ok (.aload_n 1, 1) := by decide +kernel
theorem dX2_readLine_16 : decode cX2_readLine 16 = .ok (.getfield 94, 3) := by decide +kernel
theorem dX2_readLine_19 : decode cX2_readLine 19 = .ok (.ifCond .ne 37, 3) := by decide +kernel
theorem dX2_readLine_22 : decode cX2_readLine 22 = .ok (.aload_n 0, 1) := by decide +kernel
theorem dX2_readLine_23 : decode cX2_readLine 23 = .ok (.dup, 1) := by decide +kernel
theorem dX2_readLine_24 : decode cX2_readLine 24 = .ok (.getfield 33, 3) := by decide +kernel
theorem dX2_readLine_27 : decode cX2_readLine 27 = .ok (.iconst 1, 1) := by decide +kernel
theorem dX2_readLine_28 : decode cX2_readLine 28 = .ok (.iadd, 1) := by decide +kernel
theorem dX2_readLine_29 : decode cX2_readLine 29 = .ok (.putfield 33, 3) := by decide +kernel
theorem dX2_readLine_32 : decode cX2_readLine 32 = .ok (.aload_n 0, 1) := by decide +kernel
theorem dX2_readLine_33 : decode cX2_readLine 33 = .ok (.aload_n 1, 1) := by decide +kernel
theorem dX2_readLine_34 : decode cX2_readLine 34 = .ok (.iconst 0, 1) := by decide +kernel
theorem dX2_readLine_35 : decode cX2_readLine 35 = .ok (.invokevirtual 98, 3) := by decide +kernel
theorem dX2_readLine_38 : decode cX2_readLine 38 = .ok (.ifCond .ne 5, 3) := by decide +kernel
theorem dX2_readLine_41 : decode cX2_readLine 41 = .ok (.iconst 0, 1) := by decide +kernel
theorem dX2_readLine_42 : decode cX2_readLine 42 = .ok (.ireturn, 1) := by decide +kernel
theorem dX2_readLine_43 : decode cX2_readLine 43 = .ok (.aload_n 1, 1) := by decide +kernel
theorem dX2_readLine_44 : decode cX2_readLine 44 = .ok (.iload_n 2, 1) := by decide +kernel
theorem dX2_readLine_45 : decode cX2_readLine 45 = .ok (.invokevirtual 102, 3) := by decide +kernel
theorem dX2_readLine_48 : decode cX2_readLine 48 = .ok (.aload_n 0, 1) := by decide +kernel
theorem dX2_readLine_49 : decode cX2_readLine 49 = .ok (.sipush 20059, 3) := by decide +kernel
theorem dX2_readLine_52 : decode cX2_readLine 52 = .ok (.invokevirtual 106, 3) := by decide +kernel
theorem dX2_readLine_55 : decode cX2_readLine 55 = .ok (.ireturn, 1) := by decide +kernel
theorem dX2_readLine_56 : decode cX2_readLine 56 = .ok (.aload_n 0, 1) := by decide +kernel
theorem dX2_readLine_57 : decode cX2_readLine 57 = .ok (.invokevirtual 36, 3) := by decide +kernel
theorem dX2_readLine_60 : decode cX2_readLine 60 = .ok (.sipush 10001, 3) := by decide +kernel
theorem dX2_readLine_63 : decode cX2_readLine 63 = .ok (.if_icmp .ne 12, 3) := by decide +kernel
theorem dX2_readLine_66 : decode cX2_readLine 66 = .ok (.aload_n 1, 1) := by decide +kernel
theorem dX2_readLine_67 : decode cX2_readLine 67 = .ok (.getfield 109, 3) := by decide +kernel
theorem dX2_readLine_70 : decode cX2_readLine 70 = .ok (.bipush 12, 2) := by decide +kernel
theorem dX2_readLine_72 : decode cX2_readLine 72 = .ok (.if_icmp .lt 5, 3) := by decide +kernel
theorem dX2_readLine_75 : decode cX2_readLine 75 = .ok (.iconst 0, 1) := by decide +kernel
theorem dX2_readLine_76 : decode cX2_readLine 76 = .ok (.ireturn, 1) := by decide +kernel
theorem dX2_readLine_77 : decode cX2_readLine 77 = .ok (.aload_n 0, 1) := by decide +kernel
theorem dX2_readLine_78 : decode cX2_readLine 78 = .ok (.dup, 1) := by decide +kernel
theorem dX2_readLine_79 : decode cX2_readLine 79 = .ok (.getfield 33, 3) := by decide +kernel
theorem dX2_readLine_82 : decode cX2_readLine 82 = .ok (.iconst 1, 1) := by decide +kernel
theorem dX2_readLine_83 : decode cX2_readLine 83 = .ok (.iadd, 1) := by decide +kernel
theorem dX2_readLine_84 : decode cX2_readLine 84 = .ok (.putfield 33, 3) := by decide +kernel
theorem dX2_readLine_87 : decode cX2_readLine 87 = .ok (.aload_n 0, 1) := by decide +kernel
theorem dX2_readLine_88 : decode cX2_readLine 88 = .ok (.invokevirtual 36, 3) := by decide +kernel
theorem dX2_readLine_91 : decode cX2_readLine 91 = .ok (.sipush 10004, 3) := by decide +kernel
theorem dX2_readLine_94 : decode cX2_readLine 94 = .ok (.isub, 1) := by decide +kernel
theorem dX2_readLine_95 : decode cX2_readLine 95 = .ok (.istore_n 3, 1) := by decide +kernel
theorem dX2_readLine_96 : decode cX2_readLine 96 = .ok (.iload_n 3, 1) := by decide +kernel
theorem dX2_readLine_97 : decode cX2_readLine 97 = .ok (.ifCond .lt 9, 3) := by decide +kernel
theorem dX2_readLine_100 : decode cX2_readLine 100 = .ok (.iload_n 3, 1) := by decide +kernel
theorem dX2_readLine_101 : decode cX2_readLine 101 = .ok (.bipush 7, 2) := by decide +kernel
theorem dX2_readLine_103 : decode cX2_readLine 103 = .ok (.if_icmp .lt 5, 3) := by decide +kernel
theorem dX2_readLine_106 : decode cX2_readLine 106 = .ok (.iconst 0, 1) := by decide +kernel
theorem dX2_readLine_107 : decode cX2_readLine 107 = .ok (.ireturn, 1) := by decide +kernel
theorem dX2_readLine_108 : decode cX2_readLine 108 = .ok (.aload_n 0, 1) := by decide +kernel
theorem dX2_readLine_109 : decode cX2_readLine 109 = .ok (.dup, 1) := by decide +kernel
theorem dX2_readLine_110 : decode cX2_readLine 110 = .ok (.getfield 33, 3) := by decide +kernel
theorem dX2_readLine_113 : decode cX2_readLine 113 = .ok (.iconst 1, 1) := by decide +kernel
theorem dX2_readLine_114 : decode cX2_readLine 114 = .ok (.iadd, 1) := by decide +kernel
theorem dX2_readLine_115 : decode cX2_readLine 115 = .ok (.putfield 33, 3) := by decide +kernel
theorem dX2_readLine_118 : decode cX2_readLine 118 = .ok (.aload_n 0, 1) := by decide +kernel
theorem dX2_readLine_119 : decode cX2_readLine 119 = .ok (.sipush 10002, 3) := by decide +kernel
theorem dX2_readLine_122 : decode cX2_readLine 122 = .ok (.invokevirtual 106, 3) := by decide +kernel
theorem dX2_readLine_125 : decode cX2_readLine 125 = .ok (.ifCond .eq 11, 3) := by decide +kernel
theorem dX2_readLine_128 : decode cX2_readLine 128 = .ok (.aload_n 0, 1) := by decide +kernel
theorem dX2_readLine_129 : decode cX2_readLine 129 = .ok (.aload_n 1, 1) := by decide +kernel
theorem dX2_readLine_130 : decode cX2_readLine 130 = .ok (.invokevirtual 112, 3) := by decide +kernel
theorem dX2_readLine_133 : decode cX2_readLine 133 = .ok (.ifCond .ne 5, 3) := by decide +kernel
theorem dX2_readLine_136 : decode cX2_readLine 136 = .ok (.iconst 0, 1) := by decide +kernel
theorem dX2_readLine_137 : decode cX2_readLine 137 = .ok (.ireturn, 1) := by decide +kernel
theorem dX2_readLine_138 : decode cX2_readLine 138 = .ok (.aload_n 1, 1) := by decide +kernel
theorem dX2_readLine_139 : decode cX2_readLine 139 = .ok (.iload_n 3, 1) := by decide +kernel
theorem dX2_readLine_140 : decode cX2_readLine 140 = .ok (.iload_n 2, 1) := by decide +kernel
theorem dX2_readLine_141 : decode cX2_readLine 141 = .ok (.invokevirtual 115, 3) := by decide +kernel
theorem dX2_readLine_144 : decode cX2_readLine 144 = .ok (.aload_n 0, 1) := by decide +kernel
theorem dX2_readLine_145 : decode cX2_readLine 145 = .ok (.sipush 20059, 3) := by decide +kernel
theorem dX2_readLine_148 : decode cX2_readLine 148 = .ok (.invokevirtual 106, 3) := by decide +kernel
theorem dX2_readLine_151 : decode cX2_readLine 151 = .ok (.ireturn, 1) := by decide +kernel
set_option maxHeartbeats 4000000 in
set_option maxRecDepth 100000 in
theorem t_X2_readLine {l : Launch} {g : zG} {d : Nat} {s : zS} (hR : zRok s) {p0 : Nat} (hp0 : p0 = 79 ∨ p0 = 85) {K : Bool → zS → Prop} (h : (zc l g d M_X2_token [.ref 75] s (zKi (fun r2 s1 => s1.2.2.1 = s.2.2.1 ∧ (if r2 = (10000 : Int32) then (if (s1.1 p0 2) = 0 then (zc l g d M_X2_readSum [.ref 75, .ref p0, .int (0 : Int32)] (zI s1 75 5 ((s1.1 75 5) + (1 : Int32))) (zKz (fun b26 s25 => s25.2.2.1 = s1.2.2.1 ∧ (if b26 = true then (zc l g d M_X3_setGrow [.ref p0, .int (s.1 p0 1)] s25 (zKv (fun s27 => s27.2.2.1 = s25.2.2.1 ∧ (zc l g d M_X2_take [.ref 75, .int (20059 : Int32)] s27 (zKz (fun b29 s28 => s28.2.2.1 = s27.2.2.1 ∧ K b29 s28)))))) else K false s25)))) else (zc l g d M_X2_token [.ref 75] s1 (zKi (fun r15 s14 => s14.2.2.1 = s1.2.2.1 ∧ (if r15 = (10001 : Int32) then (if (s14.1 p0 5) < (12 : Int32) then (zc l g d M_X2_token [.ref 75] (zI s14 75 5 ((s14.1 75 5) + (1 : Int32))) (zKi (fun r17 s16 => s16.2.2.1 = s14.2.2.1 ∧ (if (r17 - (10004 : Int32)) < 0 then K false s16 else (if (r17 - (10004 : Int32)) < (7 : Int32) then (zc l g d M_X2_take [.ref 75, .int (10002 : Int32)] (zI s16 75 5 ((s16.1 75 5) + (1 : Int32))) (zKz (fun b19 s18 => s18.2.2.1 = s16.2.2.1 ∧ (if b19 = true then (zc l g d M_X2_readCondition [.ref 75, .ref p0] s18 (zKz (fun b21 s20 => s20.2.2.1 = s18.2.2.1 ∧ (if b21 = true then (zc l g d M_X3_addClause [.ref p0, .int (r17 - (10004 : Int32)), .int (s.1 p0 1)] s20 (zKv (fun s22 => s22.2.2.1 = s20.2.2.1 ∧ (zc l g d M_X2_take [.ref 75, .int (20059 : Int32)] s22 (zKz (fun b24 s23 => s23.2.2.1 = s22.2.2.1 ∧ K b24 s23)))))) else K false s20)))) else K false s18)))) else K false s16))))) else K false s14) else K false s14))))) else (zc l g d M_X2_token [.ref 75] s1 (zKi (fun r4 s3 => s3.2.2.1 = s1.2.2.1 ∧ (if r4 = (10001 : Int32) then (if (s3.1 p0 5) < (12 : Int32) then (zc l g d M_X2_token [.ref 75] (zI s3 75 5 ((s3.1 75 5) + (1 : Int32))) (zKi (fun r6 s5 => s5.2.2.1 = s3.2.2.1 ∧ (if (r6 - (10004 : Int32)) < 0 then K false s5 else (if (r6 - (10004 : Int32)) < (7 : Int32) then (zc l g d M_X2_take [.ref 75, .int (10002 : Int32)] (zI s5 75 5 ((s5.1 75 5) + (1 : Int32))) (zKz (fun b8 s7 => s7.2.2.1 = s5.2.2.1 ∧ (if b8 = true then (zc l g d M_X2_readCondition [.ref 75, .ref p0] s7 (zKz (fun b10 s9 => s9.2.2.1 = s7.2.2.1 ∧ (if b10 = true then (zc l g d M_X3_addClause [.ref p0, .int (r6 - (10004 : Int32)), .int (s.1 p0 1)] s9 (zKv (fun s11 => s11.2.2.1 = s9.2.2.1 ∧ (zc l g d M_X2_take [.ref 75, .int (20059 : Int32)] s11 (zKz (fun b13 s12 => s12.2.2.1 = s11.2.2.1 ∧ K b13 s12)))))) else K false s9)))) else K false s7)))) else K false s5))))) else K false s3) else K false s3))))))))) : zc l g (d + 1) M_X2_readLine [.ref 75, .ref p0] s (zKz K) := by
  refine zCall_of k_X2_readLine (Nat.le_of_ble_eq_true rfl) (Nat.le_refl _) (fun _ => ?_)
  show zt l g (d + 1) M_X2_readLine 0 [.ref 75, .ref p0, zJ, zJ] [] s (zKz K)
  refine z_aload_n (i := 1) dX2_readLine_0 rfl rfl rfl ?_
  refine z_getI (x := s.1 p0 1) rfl f_X2_91 (i_Ru hp0) rfl dX2_readLine_1 rfl ?_
  refine z_istore_n (i := 2) dX2_readLine_4 rfl (by decide) (zokd rfl) rfl ?_
  show zt l g (d + 1) M_X2_readLine 5 [.ref 75, .ref p0, .int (s.1 p0 1), zJ] [] s _
  refine z_aload_n (i := 0) dX2_readLine_5 rfl rfl rfl ?_
  refine z_callV k_X2_token m_X2_36 (zRec_of i_75) rfl h rfl (Nat.le_of_ble_eq_true rfl) dX2_readLine_6 zy200 rfl ?_
  rintro v s1 ⟨r2, rfl, hRs1, h⟩
  show zt l g (d + 1) M_X2_readLine 9 [.ref 75, .ref p0, .int (s.1 p0 1), zJ] [.int r2] s1 _
  refine z_sipush (v := (10000 : Int32)) dX2_readLine_9 (by decide) rfl ?_
  refine z_icmp_ne (pt := 56) dX2_readLine_12 (by decide) rfl (fun c => ?_) (fun c => ?_)
  · have h := zif h c
    refine z_aload_n (i := 0) dX2_readLine_56 rfl rfl rfl ?_
    refine z_callV k_X2_token m_X2_36 (zRec_of i_75) rfl h rfl (Nat.le_of_ble_eq_true rfl) dX2_readLine_57 zy200 rfl ?_
    rintro v s3 ⟨r4, rfl, hRs3, h⟩
    show zt l g (d + 1) M_X2_readLine 60 [.ref 75, .ref p0, .int (s.1 p0 1), zJ] [.int r4] s3 _
    refine z_sipush (v := (10001 : Int32)) dX2_readLine_60 (by decide) rfl ?_
    refine z_icmp_ne (pt := 75) dX2_readLine_63 (by decide) rfl (fun c => ?_) (fun c => ?_)
    · have h := zif h c
      refine z_iconst (v := (0 : Int32)) dX2_readLine_75 (by decide) rfl ?_
      exact z_ret (some (.int (zb false))) (Or.inr (Or.inl ⟨_, _, rfl, rfl, zb_nar _, dX2_readLine_76⟩)) zN200 ⟨_, rfl, h⟩
    · have h := zit h c
      refine z_aload_n (i := 1) dX2_readLine_66 rfl rfl rfl ?_
      refine z_getI (x := s3.1 p0 5) rfl f_X2_109 (i_Ru hp0) rfl dX2_readLine_67 rfl ?_
      refine z_bipush (v := (12 : Int32)) dX2_readLine_70 (by decide) rfl ?_
      refine z_icmp_lt (pt := 77) dX2_readLine_72 (by decide) rfl (fun c => ?_) (fun c => ?_)
      · have h := zit h c
        refine z_aload_n (i := 0) dX2_readLine_77 rfl rfl rfl ?_
        refine z_dup dX2_readLine_78 rfl rfl ?_
        refine z_getI (x := s3.1 75 5) rfl f_X2_33 i_75 rfl dX2_readLine_79 rfl ?_
        refine z_iconst (v := (1 : Int32)) dX2_readLine_82 (by decide) rfl ?_
        refine z_iadd dX2_readLine_83 rfl ?_
        refine z_putI f_X2_33 i_75 rfl (Or.inl rfl) rfl rfl dX2_readLine_84 rfl ?_
        refine z_aload_n (i := 0) dX2_readLine_87 rfl rfl rfl ?_
        refine z_callV k_X2_token m_X2_36 (zRec_of i_75) rfl h rfl (Nat.le_of_ble_eq_true rfl) dX2_readLine_88 zy200 rfl ?_
        rintro v s5 ⟨r6, rfl, hRs5, h⟩
        show zt l g (d + 1) M_X2_readLine 91 [.ref 75, .ref p0, .int (s.1 p0 1), zJ] [.int r6] s5 _
        refine z_sipush (v := (10004 : Int32)) dX2_readLine_91 (by decide) rfl ?_
        refine z_isub dX2_readLine_94 rfl ?_
        refine z_istore_n (i := 3) dX2_readLine_95 rfl (by decide) (zokd rfl) rfl ?_
        show zt l g (d + 1) M_X2_readLine 96 [.ref 75, .ref p0, .int (s.1 p0 1), .int (r6 - (10004 : Int32))] [] s5 _
        refine z_iload_n (i := 3) dX2_readLine_96 rfl rfl rfl ?_
        refine z_if_lt (pt := 106) dX2_readLine_97 (by decide) rfl (fun c => ?_) (fun c => ?_)
        · have h := zit h c
          refine z_iconst (v := (0 : Int32)) dX2_readLine_106 (by decide) rfl ?_
          exact z_ret (some (.int (zb false))) (Or.inr (Or.inl ⟨_, _, rfl, rfl, zb_nar _, dX2_readLine_107⟩)) zN200 ⟨_, rfl, h⟩
        · have h := zif h c
          refine z_iload_n (i := 3) dX2_readLine_100 rfl rfl rfl ?_
          refine z_bipush (v := (7 : Int32)) dX2_readLine_101 (by decide) rfl ?_
          refine z_icmp_lt (pt := 108) dX2_readLine_103 (by decide) rfl (fun c => ?_) (fun c => ?_)
          · have h := zit h c
            refine z_aload_n (i := 0) dX2_readLine_108 rfl rfl rfl ?_
            refine z_dup dX2_readLine_109 rfl rfl ?_
            refine z_getI (x := s5.1 75 5) rfl f_X2_33 i_75 rfl dX2_readLine_110 rfl ?_
            refine z_iconst (v := (1 : Int32)) dX2_readLine_113 (by decide) rfl ?_
            refine z_iadd dX2_readLine_114 rfl ?_
            refine z_putI f_X2_33 i_75 rfl (Or.inl rfl) rfl rfl dX2_readLine_115 rfl ?_
            refine z_aload_n (i := 0) dX2_readLine_118 rfl rfl rfl ?_
            refine z_sipush (v := (10002 : Int32)) dX2_readLine_119 (by decide) rfl ?_
            refine z_callV k_X2_take m_X2_106 (zRec_of i_75) rfl h rfl (Nat.le_of_ble_eq_true rfl) dX2_readLine_122 zy200 rfl ?_
            rintro v s7 ⟨b8, rfl, hRs7, h⟩
            show zt l g (d + 1) M_X2_readLine 125 [.ref 75, .ref p0, .int (s.1 p0 1), .int (r6 - (10004 : Int32))] [.int (zb b8)] s7 _
            refine z_ifb_eq (pt := 136) dX2_readLine_125 (by decide) rfl (fun c => ?_) (fun c => ?_)
            · have h := zif h (by rw [c]; exact Bool.false_ne_true)
              refine z_iconst (v := (0 : Int32)) dX2_readLine_136 (by decide) rfl ?_
              exact z_ret (some (.int (zb false))) (Or.inr (Or.inl ⟨_, _, rfl, rfl, zb_nar _, dX2_readLine_137⟩)) zN200 ⟨_, rfl, h⟩
            · have h := zit h c
              refine z_aload_n (i := 0) dX2_readLine_128 rfl rfl rfl ?_
              refine z_aload_n (i := 1) dX2_readLine_129 rfl rfl rfl ?_
              refine z_callV k_X2_readCondition m_X2_112 (zRec_of i_75) rfl h rfl (Nat.le_of_ble_eq_true rfl) dX2_readLine_130 zy200 rfl ?_
              rintro v s9 ⟨b10, rfl, hRs9, h⟩
              show zt l g (d + 1) M_X2_readLine 133 [.ref 75, .ref p0, .int (s.1 p0 1), .int (r6 - (10004 : Int32))] [.int (zb b10)] s9 _
              refine z_ifb_ne (pt := 138) dX2_readLine_133 (by decide) rfl (fun c => ?_) (fun c => ?_)
              · have h := zit h c
                refine z_aload_n (i := 1) dX2_readLine_138 rfl rfl rfl ?_
                refine z_iload_n (i := 3) dX2_readLine_139 rfl rfl rfl ?_
                refine z_iload_n (i := 2) dX2_readLine_140 rfl rfl rfl ?_
                refine z_callV k_X3_addClause m_X2_115 (zRec_of (i_Ru hp0)) rfl h rfl (Nat.le_of_ble_eq_true rfl) dX2_readLine_141 zy200 rfl ?_
                rintro v s11 ⟨rfl, hRs11, h⟩
                show zt l g (d + 1) M_X2_readLine 144 [.ref 75, .ref p0, .int (s.1 p0 1), .int (r6 - (10004 : Int32))] [] s11 _
                refine z_aload_n (i := 0) dX2_readLine_144 rfl rfl rfl ?_
                refine z_sipush (v := (20059 : Int32)) dX2_readLine_145 (by decide) rfl ?_
                refine z_callV k_X2_take m_X2_106 (zRec_of i_75) rfl h rfl (Nat.le_of_ble_eq_true rfl) dX2_readLine_148 zy200 rfl ?_
                rintro v s12 ⟨b13, rfl, hRs12, h⟩
                show zt l g (d + 1) M_X2_readLine 151 [.ref 75, .ref p0, .int (s.1 p0 1), .int (r6 - (10004 : Int32))] [.int (zb b13)] s12 _
                exact z_ret (some (.int (zb b13))) (Or.inr (Or.inl ⟨_, _, rfl, rfl, zb_nar _, dX2_readLine_151⟩)) zN200 ⟨_, rfl, h⟩
              · have h := zif h (by rw [c]; exact Bool.false_ne_true)
                refine z_iconst (v := (0 : Int32)) dX2_readLine_136 (by decide) rfl ?_
                exact z_ret (some (.int (zb false))) (Or.inr (Or.inl ⟨_, _, rfl, rfl, zb_nar _, dX2_readLine_137⟩)) zN200 ⟨_, rfl, h⟩
          · have h := zif h c
            refine z_iconst (v := (0 : Int32)) dX2_readLine_106 (by decide) rfl ?_
            exact z_ret (some (.int (zb false))) (Or.inr (Or.inl ⟨_, _, rfl, rfl, zb_nar _, dX2_readLine_107⟩)) zN200 ⟨_, rfl, h⟩
      · have h := zif h c
        refine z_iconst (v := (0 : Int32)) dX2_readLine_75 (by decide) rfl ?_
        exact z_ret (some (.int (zb false))) (Or.inr (Or.inl ⟨_, _, rfl, rfl, zb_nar _, dX2_readLine_76⟩)) zN200 ⟨_, rfl, h⟩
  · have h := zit h c
    refine z_aload_n (i := 1) dX2_readLine_15 rfl rfl rfl ?_
    refine z_getI (x := s1.1 p0 2) rfl f_X2_94 (i_Ru hp0) rfl dX2_readLine_16 rfl ?_
    refine z_if_ne (pt := 56) dX2_readLine_19 (by decide) rfl (fun c => ?_) (fun c => ?_)
    · have h := zif h c
      refine z_aload_n (i := 0) dX2_readLine_56 rfl rfl rfl ?_
      refine z_callV k_X2_token m_X2_36 (zRec_of i_75) rfl h rfl (Nat.le_of_ble_eq_true rfl) dX2_readLine_57 zy200 rfl ?_
      rintro v s14 ⟨r15, rfl, hRs14, h⟩
      show zt l g (d + 1) M_X2_readLine 60 [.ref 75, .ref p0, .int (s.1 p0 1), zJ] [.int r15] s14 _
      refine z_sipush (v := (10001 : Int32)) dX2_readLine_60 (by decide) rfl ?_
      refine z_icmp_ne (pt := 75) dX2_readLine_63 (by decide) rfl (fun c => ?_) (fun c => ?_)
      · have h := zif h c
        refine z_iconst (v := (0 : Int32)) dX2_readLine_75 (by decide) rfl ?_
        exact z_ret (some (.int (zb false))) (Or.inr (Or.inl ⟨_, _, rfl, rfl, zb_nar _, dX2_readLine_76⟩)) zN200 ⟨_, rfl, h⟩
      · have h := zit h c
        refine z_aload_n (i := 1) dX2_readLine_66 rfl rfl rfl ?_
        refine z_getI (x := s14.1 p0 5) rfl f_X2_109 (i_Ru hp0) rfl dX2_readLine_67 rfl ?_
        refine z_bipush (v := (12 : Int32)) dX2_readLine_70 (by decide) rfl ?_
        refine z_icmp_lt (pt := 77) dX2_readLine_72 (by decide) rfl (fun c => ?_) (fun c => ?_)
        · have h := zit h c
          refine z_aload_n (i := 0) dX2_readLine_77 rfl rfl rfl ?_
          refine z_dup dX2_readLine_78 rfl rfl ?_
          refine z_getI (x := s14.1 75 5) rfl f_X2_33 i_75 rfl dX2_readLine_79 rfl ?_
          refine z_iconst (v := (1 : Int32)) dX2_readLine_82 (by decide) rfl ?_
          refine z_iadd dX2_readLine_83 rfl ?_
          refine z_putI f_X2_33 i_75 rfl (Or.inl rfl) rfl rfl dX2_readLine_84 rfl ?_
          refine z_aload_n (i := 0) dX2_readLine_87 rfl rfl rfl ?_
          refine z_callV k_X2_token m_X2_36 (zRec_of i_75) rfl h rfl (Nat.le_of_ble_eq_true rfl) dX2_readLine_88 zy200 rfl ?_
          rintro v s16 ⟨r17, rfl, hRs16, h⟩
          show zt l g (d + 1) M_X2_readLine 91 [.ref 75, .ref p0, .int (s.1 p0 1), zJ] [.int r17] s16 _
          refine z_sipush (v := (10004 : Int32)) dX2_readLine_91 (by decide) rfl ?_
          refine z_isub dX2_readLine_94 rfl ?_
          refine z_istore_n (i := 3) dX2_readLine_95 rfl (by decide) (zokd rfl) rfl ?_
          show zt l g (d + 1) M_X2_readLine 96 [.ref 75, .ref p0, .int (s.1 p0 1), .int (r17 - (10004 : Int32))] [] s16 _
          refine z_iload_n (i := 3) dX2_readLine_96 rfl rfl rfl ?_
          refine z_if_lt (pt := 106) dX2_readLine_97 (by decide) rfl (fun c => ?_) (fun c => ?_)
          · have h := zit h c
            refine z_iconst (v := (0 : Int32)) dX2_readLine_106 (by decide) rfl ?_
            exact z_ret (some (.int (zb false))) (Or.inr (Or.inl ⟨_, _, rfl, rfl, zb_nar _, dX2_readLine_107⟩)) zN200 ⟨_, rfl, h⟩
          · have h := zif h c
            refine z_iload_n (i := 3) dX2_readLine_100 rfl rfl rfl ?_
            refine z_bipush (v := (7 : Int32)) dX2_readLine_101 (by decide) rfl ?_
            refine z_icmp_lt (pt := 108) dX2_readLine_103 (by decide) rfl (fun c => ?_) (fun c => ?_)
            · have h := zit h c
              refine z_aload_n (i := 0) dX2_readLine_108 rfl rfl rfl ?_
              refine z_dup dX2_readLine_109 rfl rfl ?_
              refine z_getI (x := s16.1 75 5) rfl f_X2_33 i_75 rfl dX2_readLine_110 rfl ?_
              refine z_iconst (v := (1 : Int32)) dX2_readLine_113 (by decide) rfl ?_
              refine z_iadd dX2_readLine_114 rfl ?_
              refine z_putI f_X2_33 i_75 rfl (Or.inl rfl) rfl rfl dX2_readLine_115 rfl ?_
              refine z_aload_n (i := 0) dX2_readLine_118 rfl rfl rfl ?_
              refine z_sipush (v := (10002 : Int32)) dX2_readLine_119 (by decide) rfl ?_
              refine z_callV k_X2_take m_X2_106 (zRec_of i_75) rfl h rfl (Nat.le_of_ble_eq_true rfl) dX2_readLine_122 zy200 rfl ?_
              rintro v s18 ⟨b19, rfl, hRs18, h⟩
              show zt l g (d + 1) M_X2_readLine 125 [.ref 75, .ref p0, .int (s.1 p0 1), .int (r17 - (10004 : Int32))] [.int (zb b19)] s18 _
              refine z_ifb_eq (pt := 136) dX2_readLine_125 (by decide) rfl (fun c => ?_) (fun c => ?_)
              · have h := zif h (by rw [c]; exact Bool.false_ne_true)
                refine z_iconst (v := (0 : Int32)) dX2_readLine_136 (by decide) rfl ?_
                exact z_ret (some (.int (zb false))) (Or.inr (Or.inl ⟨_, _, rfl, rfl, zb_nar _, dX2_readLine_137⟩)) zN200 ⟨_, rfl, h⟩
              · have h := zit h c
                refine z_aload_n (i := 0) dX2_readLine_128 rfl rfl rfl ?_
                refine z_aload_n (i := 1) dX2_readLine_129 rfl rfl rfl ?_
                refine z_callV k_X2_readCondition m_X2_112 (zRec_of i_75) rfl h rfl (Nat.le_of_ble_eq_true rfl) dX2_readLine_130 zy200 rfl ?_
                rintro v s20 ⟨b21, rfl, hRs20, h⟩
                show zt l g (d + 1) M_X2_readLine 133 [.ref 75, .ref p0, .int (s.1 p0 1), .int (r17 - (10004 : Int32))] [.int (zb b21)] s20 _
                refine z_ifb_ne (pt := 138) dX2_readLine_133 (by decide) rfl (fun c => ?_) (fun c => ?_)
                · have h := zit h c
                  refine z_aload_n (i := 1) dX2_readLine_138 rfl rfl rfl ?_
                  refine z_iload_n (i := 3) dX2_readLine_139 rfl rfl rfl ?_
                  refine z_iload_n (i := 2) dX2_readLine_140 rfl rfl rfl ?_
                  refine z_callV k_X3_addClause m_X2_115 (zRec_of (i_Ru hp0)) rfl h rfl (Nat.le_of_ble_eq_true rfl) dX2_readLine_141 zy200 rfl ?_
                  rintro v s22 ⟨rfl, hRs22, h⟩
                  show zt l g (d + 1) M_X2_readLine 144 [.ref 75, .ref p0, .int (s.1 p0 1), .int (r17 - (10004 : Int32))] [] s22 _
                  refine z_aload_n (i := 0) dX2_readLine_144 rfl rfl rfl ?_
                  refine z_sipush (v := (20059 : Int32)) dX2_readLine_145 (by decide) rfl ?_
                  refine z_callV k_X2_take m_X2_106 (zRec_of i_75) rfl h rfl (Nat.le_of_ble_eq_true rfl) dX2_readLine_148 zy200 rfl ?_
                  rintro v s23 ⟨b24, rfl, hRs23, h⟩
                  show zt l g (d + 1) M_X2_readLine 151 [.ref 75, .ref p0, .int (s.1 p0 1), .int (r17 - (10004 : Int32))] [.int (zb b24)] s23 _
                  exact z_ret (some (.int (zb b24))) (Or.inr (Or.inl ⟨_, _, rfl, rfl, zb_nar _, dX2_readLine_151⟩)) zN200 ⟨_, rfl, h⟩
                · have h := zif h (by rw [c]; exact Bool.false_ne_true)
                  refine z_iconst (v := (0 : Int32)) dX2_readLine_136 (by decide) rfl ?_
                  exact z_ret (some (.int (zb false))) (Or.inr (Or.inl ⟨_, _, rfl, rfl, zb_nar _, dX2_readLine_137⟩)) zN200 ⟨_, rfl, h⟩
            · have h := zif h c
              refine z_iconst (v := (0 : Int32)) dX2_readLine_106 (by decide) rfl ?_
              exact z_ret (some (.int (zb false))) (Or.inr (Or.inl ⟨_, _, rfl, rfl, zb_nar _, dX2_readLine_107⟩)) zN200 ⟨_, rfl, h⟩
        · have h := zif h c
          refine z_iconst (v := (0 : Int32)) dX2_readLine_75 (by decide) rfl ?_
          exact z_ret (some (.int (zb false))) (Or.inr (Or.inl ⟨_, _, rfl, rfl, zb_nar _, dX2_readLine_76⟩)) zN200 ⟨_, rfl, h⟩
    · have h := zit h c
      refine z_aload_n (i := 0) dX2_readLine_22 rfl rfl rfl ?_
      refine z_dup dX2_readLine_23 rfl rfl ?_
      refine z_getI (x := s1.1 75 5) rfl f_X2_33 i_75 rfl dX2_readLine_24 rfl ?_
      refine z_iconst (v := (1 : Int32)) dX2_readLine_27 (by decide) rfl ?_
      refine z_iadd dX2_readLine_28 rfl ?_
      refine z_putI f_X2_33 i_75 rfl (Or.inl rfl) rfl rfl dX2_readLine_29 rfl ?_
      refine z_aload_n (i := 0) dX2_readLine_32 rfl rfl rfl ?_
      refine z_aload_n (i := 1) dX2_readLine_33 rfl rfl rfl ?_
      refine z_iconst (v := (0 : Int32)) dX2_readLine_34 (by decide) rfl ?_
      refine z_callV k_X2_readSum m_X2_98 (zRec_of i_75) rfl h rfl (Nat.le_of_ble_eq_true rfl) dX2_readLine_35 zy200 rfl ?_
      rintro v s25 ⟨b26, rfl, hRs25, h⟩
      show zt l g (d + 1) M_X2_readLine 38 [.ref 75, .ref p0, .int (s.1 p0 1), zJ] [.int (zb b26)] s25 _
      refine z_ifb_ne (pt := 43) dX2_readLine_38 (by decide) rfl (fun c => ?_) (fun c => ?_)
      · have h := zit h c
        refine z_aload_n (i := 1) dX2_readLine_43 rfl rfl rfl ?_
        refine z_iload_n (i := 2) dX2_readLine_44 rfl rfl rfl ?_
        refine z_callV k_X3_setGrow m_X2_102 (zRec_of (i_Ru hp0)) rfl h rfl (Nat.le_of_ble_eq_true rfl) dX2_readLine_45 zy200 rfl ?_
        rintro v s27 ⟨rfl, hRs27, h⟩
        show zt l g (d + 1) M_X2_readLine 48 [.ref 75, .ref p0, .int (s.1 p0 1), zJ] [] s27 _
        refine z_aload_n (i := 0) dX2_readLine_48 rfl rfl rfl ?_
        refine z_sipush (v := (20059 : Int32)) dX2_readLine_49 (by decide) rfl ?_
        refine z_callV k_X2_take m_X2_106 (zRec_of i_75) rfl h rfl (Nat.le_of_ble_eq_true rfl) dX2_readLine_52 zy200 rfl ?_
        rintro v s28 ⟨b29, rfl, hRs28, h⟩
        show zt l g (d + 1) M_X2_readLine 55 [.ref 75, .ref p0, .int (s.1 p0 1), zJ] [.int (zb b29)] s28 _
        exact z_ret (some (.int (zb b29))) (Or.inr (Or.inl ⟨_, _, rfl, rfl, zb_nar _, dX2_readLine_55⟩)) zN200 ⟨_, rfl, h⟩
      · have h := zif h (by rw [c]; exact Bool.false_ne_true)
        refine z_iconst (v := (0 : Int32)) dX2_readLine_41 (by decide) rfl ?_
        exact z_ret (some (.int (zb false))) (Or.inr (Or.inl ⟨_, _, rfl, rfl, zb_nar _, dX2_readLine_42⟩)) zN200 ⟨_, rfl, h⟩
theorem dX2_readCondition_0 : decode cX2_readCondition 0 = .ok (.iconst 0, 1) := by decide +kernel
theorem dX2_readCondition_1 : decode cX2_readCondition 1 = .ok (.istore_n 2, 1) := by decide +kernel
theorem dX2_readCondition_2 : decode cX2_readCondition 2 = .ok (.iload_n 2, 1) := by decide +kernel
theorem dX2_readCondition_3 : decode cX2_readCondition 3 = .ok (.sipush 400, 3) := by decide +kernel
theorem dX2_readCondition_6 : decode cX2_readCondition 6 = .ok (.if_icmp .ge 90, 3) := by decide +kernel
theorem dX2_readCondition_9 : decode cX2_readCondition 9 = .ok (.aload_n 0, 1) := by decide +kernel
theorem dX2_readCondition_10 : decode cX2_readCondition 10 = .ok (.aload_n 1, 1) := by decide +kernel
theorem dX2_readCondition_11 : decode cX2_readCondition 11 = .ok (.iconst 0, 1) := by decide +kernel
theorem dX2_readCondition_12 : decode cX2_readCondition 12 = .ok (.invokevirtual 98, 3) := by decide +kernel
theorem dX2_readCondition_15 : decode cX2_readCondition 15 = .ok (.ifCond .ne 5, 3) := by decide +kernel
theorem dX2_readCondition_18 : decode cX2_readCondition 18 = .ok (.iconst 0, 1) := by decide +kernel
theorem dX2_readCondition_19 : decode cX2_readCondition 19 = .ok (.ireturn, 1) := by decide +kernel
theorem dX2_readCondition_20 : decode cX2_readCondition 20 = .ok (.aload_n 0, 1) := by decide +kernel
theorem dX2_readCondition_21 : decode cX2_readCondition 21 = .ok (.invokevirtual 36, 3) := by decide +kernel
theorem dX2_readCondition_24 : decode cX2_readCondition 24 = .ok (.istore_n 3, 1) := by decide +kernel
theorem dX2_readCondition_25 : decode cX2_readCondition 25 = .ok (.iload_n 3, 1) := by decide +kernel
theorem dX2_readCondition_26 : decode cX2_readCondition 26 = .ok (.sipush 20060, 3) := by decide +kernel
theorem dX2_readCondition_29 : decode cX2_readCondition 29 = .ok (.if_icmp .eq 12, 3) := by decide +kernel
theorem dX2_readCondition_32 : decode cX2_readCondition 32 = .ok (.iload_n 3, 1) := by decide +kernel
theorem dX2_readCondition_33 : decode cX2_readCondition 33 = .ok (.sipush 20061, 3) := by decide +kernel
theorem dX2_readCondition_36 : decode cX2_readCondition 36 = .ok (.if_icmp .eq 5, 3) := by decide +kernel
theorem dX2_readCondition_39 : decode cX2_readCondition 39 = .ok (.iconst 0, 1) := by decide +kernel
theorem dX2_readCondition_40 : decode cX2_readCondition 40 = .ok (.ireturn, 1) := by decide +kernel
theorem dX2_readCondition_41 : decode cX2_readCondition 41 = .ok (.aload_n 0, 1) := by decide +kernel
theorem dX2_readCondition_42 : decode cX2_readCondition 42 = .ok (.dup, 1) := by decide +kernel
theorem dX2_readCondition_43 : decode cX2_readCondition 43 = .ok (.getfield 33, 3) := by decide +kernel
theorem dX2_readCondition_46 : decode cX2_readCondition 46 = .ok (.iconst 1, 1) := by decide +kernel
theorem dX2_readCondition_47 : decode cX2_readCondition 47 = .ok (.iadd, 1) := by decide +kernel
theorem dX2_readCondition_48 : decode cX2_readCondition 48 = .ok (.putfield 33, 3) := by decide +kernel
theorem dX2_readCondition_51 : decode cX2_readCondition 51 = .ok (.aload_n 0, 1) := by decide +kernel
theorem dX2_readCondition_52 : decode cX2_readCondition 52 = .ok (.aload_n 1, 1) := by decide +kernel
theorem dX2_readCondition_53 : decode cX2_readCondition 53 = .ok (.iconst 0, 1) := by decide +kernel
theorem dX2_readCondition_54 : decode cX2_readCondition 54 = .ok (.invokevirtual 98, 3) := by decide +kernel
theorem dX2_readCondition_57 : decode cX2_readCondition 57 = .ok (.ifCond .ne 5, 3) := by decide +kernel
theorem dX2_readCondition_60 : decode cX2_readCondition 60 = .ok (.iconst 0, 1) := by decide +kernel
theorem dX2_readCondition_61 : decode cX2_readCondition 61 = .ok (.ireturn, 1) := by decide +kernel
theorem dX2_readCondition_62 : decode cX2_readCondition 62 = .ok (.aload_n 1, 1) := by decide +kernel
theorem dX2_readCondition_63 : decode cX2_readCondition 63 = .ok (.iload_n 3, 1) := by decide +kernel
theorem dX2_readCondition_64 : decode cX2_readCondition 64 = .ok (.invokevirtual 119, 3) := by decide +kernel
theorem dX2_readCondition_67 : decode cX2_readCondition 67 = .ok (.iload_n 2, 1) := by decide +kernel
theorem dX2_readCondition_68 : decode cX2_readCondition 68 = .ok (.ifCond .le 10, 3) := by decide +kernel
theorem dX2_readCondition_71 : decode cX2_readCondition 71 = .ok (.aload_n 1, 1) := by decide +kernel
theorem dX2_readCondition_72 : decode cX2_readCondition 72 = .ok (.sipush 10003, 3) := by decide +kernel
theorem dX2_readCondition_75 : decode cX2_readCondition 75 = .ok (.invokevirtual 119, 3) := by decide +kernel
theorem dX2_readCondition_78 : decode cX2_readCondition 78 = .ok (.aload_n 0, 1) := by decide +kernel
theorem dX2_readCondition_79 : decode cX2_readCondition 79 = .ok (.sipush 10003, 3) := by decide +kernel
theorem dX2_readCondition_82 : decode cX2_readCondition 82 = .ok (.invokevirtual 106, 3) := by decide +kernel
theorem dX2_readCondition_85 : decode cX2_readCondition 85 = .ok (.ifCond .ne 5, 3) := by decide +kernel
theorem dX2_readCondition_88 : decode cX2_readCondition 88 = .ok (.iconst 1, 1) := by decide +kernel
theorem dX2_readCondition_89 : decode cX2_readCondition 89 = .ok (.ireturn, 1) := by decide +kernel
theorem dX2_readCondition_90 : decode cX2_readCondition 90 = .ok (.iinc 2 1, 3) := by decide +kernel
theorem dX2_readCondition_93 : decode cX2_readCondition 93 = .ok (.goto (-91), 3) := by decide +kernel
theorem dX2_readCondition_96 : decode cX2_readCondition 96 = .ok (.iconst 0, 1) := by decide +kernel
theorem dX2_readCondition_97 : decode cX2_readCondition 97 = .ok (.ireturn, 1) := by decide +kernel
set_option maxHeartbeats 4000000 in
set_option maxRecDepth 100000 in
theorem t_X2_readCondition {l : Launch} {g : zG} {d : Nat} {s : zS} (hR : zRok s) {p0 : Nat} (hp0 : p0 = 79 ∨ p0 = 85) {K : Bool → zS → Prop} (h : zt l g (d + 1) M_X2_readCondition 2 [.ref 75, .ref p0, .int (0 : Int32), zJ] [] s (zKz K)) : zc l g (d + 1) M_X2_readCondition [.ref 75, .ref p0] s (zKz K) := by
  refine zCall_of k_X2_readCondition (Nat.le_of_ble_eq_true rfl) (Nat.le_refl _) (fun _ => ?_)
  show zt l g (d + 1) M_X2_readCondition 0 [.ref 75, .ref p0, zJ, zJ] [] s (zKz K)
  refine z_iconst (v := (0 : Int32)) dX2_readCondition_0 (by decide) rfl ?_
  refine z_istore_n (i := 2) dX2_readCondition_1 rfl (by decide) (zokd rfl) rfl ?_
  show zt l g (d + 1) M_X2_readCondition 2 [.ref 75, .ref p0, .int (0 : Int32), zJ] [] s _
  exact h
set_option maxHeartbeats 4000000 in
set_option maxRecDepth 100000 in
theorem t_X2_readCondition_2 {l : Launch} {g : zG} {d : Nat} {s : zS} (hR : zRok s) {x1 : Nat} (hx1 : x1 = 79 ∨ x1 = 85) {x2 : Int32} {K : Bool → zS → Prop} (h : (if (400 : Int32) ≤ x2 then K false s else (zc l g d M_X2_readSum [.ref 75, .ref x1, .int (0 : Int32)] s (zKz (fun b2 s1 => s1.2.2.1 = s.2.2.1 ∧ (if b2 = true then (zc l g d M_X2_token [.ref 75] s1 (zKi (fun r4 s3 => s3.2.2.1 = s1.2.2.1 ∧ (if r4 = (20060 : Int32) then (zc l g d M_X2_readSum [.ref 75, .ref x1, .int (0 : Int32)] (zI s3 75 5 ((s3.1 75 5) + (1 : Int32))) (zKz (fun b6 s5 => s5.2.2.1 = s3.2.2.1 ∧ (if b6 = true then (zc l g d M_X3_emit [.ref x1, .int r4] s5 (zKv (fun s7 => s7.2.2.1 = s5.2.2.1 ∧ (if x2 ≤ 0 then (zc l g d M_X2_take [.ref 75, .int (10003 : Int32)] s7 (zKz (fun b9 s8 => s8.2.2.1 = s7.2.2.1 ∧ (if b9 = true then zt l g (d + 1) M_X2_readCondition 2 [.ref 75, .ref x1, .int (x2 + (1 : Int32)), zJ] [] s8 (zKz K) else K true s8)))) else (zc l g d M_X3_emit [.ref x1, .int (10003 : Int32)] s7 (zKv (fun s10 => s10.2.2.1 = s7.2.2.1 ∧ (zc l g d M_X2_take [.ref 75, .int (10003 : Int32)] s10 (zKz (fun b12 s11 => s11.2.2.1 = s10.2.2.1 ∧ (if b12 = true then zt l g (d + 1) M_X2_readCondition 2 [.ref 75, .ref x1, .int (x2 + (1 : Int32)), zJ] [] s11 (zKz K) else K true s11))))))))))) else K false s5)))) else (if r4 = (20061 : Int32) then (zc l g d M_X2_readSum [.ref 75, .ref x1, .int (0 : Int32)] (zI s3 75 5 ((s3.1 75 5) + (1 : Int32))) (zKz (fun b14 s13 => s13.2.2.1 = s3.2.2.1 ∧ (if b14 = true then (zc l g d M_X3_emit [.ref x1, .int r4] s13 (zKv (fun s15 => s15.2.2.1 = s13.2.2.1 ∧ (if x2 ≤ 0 then (zc l g d M_X2_take [.ref 75, .int (10003 : Int32)] s15 (zKz (fun b17 s16 => s16.2.2.1 = s15.2.2.1 ∧ (if b17 = true then zt l g (d + 1) M_X2_readCondition 2 [.ref 75, .ref x1, .int (x2 + (1 : Int32)), zJ] [] s16 (zKz K) else K true s16)))) else (zc l g d M_X3_emit [.ref x1, .int (10003 : Int32)] s15 (zKv (fun s18 => s18.2.2.1 = s15.2.2.1 ∧ (zc l g d M_X2_take [.ref 75, .int (10003 : Int32)] s18 (zKz (fun b20 s19 => s19.2.2.1 = s18.2.2.1 ∧ (if b20 = true then zt l g (d + 1) M_X2_readCondition 2 [.ref 75, .ref x1, .int (x2 + (1 : Int32)), zJ] [] s19 (zKz K) else K true s19))))))))))) else K false s13)))) else K false s3))))) else K false s1)))))) : zt l g (d + 1) M_X2_readCondition 2 [.ref 75, .ref x1, .int x2, zJ] [] s (zKz K) := by
  refine z_iload_n (i := 2) dX2_readCondition_2 rfl rfl rfl ?_
  refine z_sipush (v := (400 : Int32)) dX2_readCondition_3 (by decide) rfl ?_
  refine z_icmp_ge (pt := 96) dX2_readCondition_6 (by decide) rfl (fun c => ?_) (fun c => ?_)
  · have h := zit h c
    refine z_iconst (v := (0 : Int32)) dX2_readCondition_96 (by decide) rfl ?_
    exact z_ret (some (.int (zb false))) (Or.inr (Or.inl ⟨_, _, rfl, rfl, zb_nar _, dX2_readCondition_97⟩)) zN200 ⟨_, rfl, h⟩
  · have h := zif h c
    refine z_aload_n (i := 0) dX2_readCondition_9 rfl rfl rfl ?_
    refine z_aload_n (i := 1) dX2_readCondition_10 rfl rfl rfl ?_
    refine z_iconst (v := (0 : Int32)) dX2_readCondition_11 (by decide) rfl ?_
    refine z_callV k_X2_readSum m_X2_98 (zRec_of i_75) rfl h rfl (Nat.le_of_ble_eq_true rfl) dX2_readCondition_12 zy200 rfl ?_
    rintro v s1 ⟨b2, rfl, hRs1, h⟩
    show zt l g (d + 1) M_X2_readCondition 15 [.ref 75, .ref x1, .int x2, zJ] [.int (zb b2)] s1 _
    refine z_ifb_ne (pt := 20) dX2_readCondition_15 (by decide) rfl (fun c => ?_) (fun c => ?_)
    · have h := zit h c
      refine z_aload_n (i := 0) dX2_readCondition_20 rfl rfl rfl ?_
      refine z_callV k_X2_token m_X2_36 (zRec_of i_75) rfl h rfl (Nat.le_of_ble_eq_true rfl) dX2_readCondition_21 zy200 rfl ?_
      rintro v s3 ⟨r4, rfl, hRs3, h⟩
      show zt l g (d + 1) M_X2_readCondition 24 [.ref 75, .ref x1, .int x2, zJ] [.int r4] s3 _
      refine z_istore_n (i := 3) dX2_readCondition_24 rfl (by decide) (zokd rfl) rfl ?_
      show zt l g (d + 1) M_X2_readCondition 25 [.ref 75, .ref x1, .int x2, .int r4] [] s3 _
      refine z_iload_n (i := 3) dX2_readCondition_25 rfl rfl rfl ?_
      refine z_sipush (v := (20060 : Int32)) dX2_readCondition_26 (by decide) rfl ?_
      refine z_icmp_eq (pt := 41) dX2_readCondition_29 (by decide) rfl (fun c => ?_) (fun c => ?_)
      · have h := zit h c
        refine z_aload_n (i := 0) dX2_readCondition_41 rfl rfl rfl ?_
        refine z_dup dX2_readCondition_42 rfl rfl ?_
        refine z_getI (x := s3.1 75 5) rfl f_X2_33 i_75 rfl dX2_readCondition_43 rfl ?_
        refine z_iconst (v := (1 : Int32)) dX2_readCondition_46 (by decide) rfl ?_
        refine z_iadd dX2_readCondition_47 rfl ?_
        refine z_putI f_X2_33 i_75 rfl (Or.inl rfl) rfl rfl dX2_readCondition_48 rfl ?_
        refine z_aload_n (i := 0) dX2_readCondition_51 rfl rfl rfl ?_
        refine z_aload_n (i := 1) dX2_readCondition_52 rfl rfl rfl ?_
        refine z_iconst (v := (0 : Int32)) dX2_readCondition_53 (by decide) rfl ?_
        refine z_callV k_X2_readSum m_X2_98 (zRec_of i_75) rfl h rfl (Nat.le_of_ble_eq_true rfl) dX2_readCondition_54 zy200 rfl ?_
        rintro v s5 ⟨b6, rfl, hRs5, h⟩
        show zt l g (d + 1) M_X2_readCondition 57 [.ref 75, .ref x1, .int x2, .int r4] [.int (zb b6)] s5 _
        refine z_ifb_ne (pt := 62) dX2_readCondition_57 (by decide) rfl (fun c => ?_) (fun c => ?_)
        · have h := zit h c
          refine z_aload_n (i := 1) dX2_readCondition_62 rfl rfl rfl ?_
          refine z_iload_n (i := 3) dX2_readCondition_63 rfl rfl rfl ?_
          refine z_callV k_X3_emit m_X2_119 (zRec_of (i_Ru hx1)) rfl h rfl (Nat.le_of_ble_eq_true rfl) dX2_readCondition_64 zy200 rfl ?_
          rintro v s7 ⟨rfl, hRs7, h⟩
          show zt l g (d + 1) M_X2_readCondition 67 [.ref 75, .ref x1, .int x2, .int r4] [] s7 _
          refine z_iload_n (i := 2) dX2_readCondition_67 rfl rfl rfl ?_
          refine z_if_le (pt := 78) dX2_readCondition_68 (by decide) rfl (fun c => ?_) (fun c => ?_)
          · have h := zit h c
            refine z_aload_n (i := 0) dX2_readCondition_78 rfl rfl rfl ?_
            refine z_sipush (v := (10003 : Int32)) dX2_readCondition_79 (by decide) rfl ?_
            refine z_callV k_X2_take m_X2_106 (zRec_of i_75) rfl h rfl (Nat.le_of_ble_eq_true rfl) dX2_readCondition_82 zy200 rfl ?_
            rintro v s8 ⟨b9, rfl, hRs8, h⟩
            show zt l g (d + 1) M_X2_readCondition 85 [.ref 75, .ref x1, .int x2, .int r4] [.int (zb b9)] s8 _
            refine z_ifb_ne (pt := 90) dX2_readCondition_85 (by decide) rfl (fun c => ?_) (fun c => ?_)
            · have h := zit h c
              refine z_iinc (v := x2 + (1 : Int32)) dX2_readCondition_90 rfl rfl (by decide) (zokd rfl) rfl ?_
              show zt l g (d + 1) M_X2_readCondition 93 [.ref 75, .ref x1, .int (x2 + (1 : Int32)), .int r4] [] s8 _
              refine z_goto (pn := 2) dX2_readCondition_93 (by decide) ?_
              refine z_wk (ls' := [.ref 75, .ref x1, .int (x2 + (1 : Int32)), zJ]) ⟨Or.inr rfl, Or.inr rfl, Or.inr rfl, Or.inl rfl, trivial⟩ ?_
              exact h
            · have h := zif h (by rw [c]; exact Bool.false_ne_true)
              refine z_iconst (v := (1 : Int32)) dX2_readCondition_88 (by decide) rfl ?_
              exact z_ret (some (.int (zb true))) (Or.inr (Or.inl ⟨_, _, rfl, rfl, zb_nar _, dX2_readCondition_89⟩)) zN200 ⟨_, rfl, h⟩
          · have h := zif h c
            refine z_aload_n (i := 1) dX2_readCondition_71 rfl rfl rfl ?_
            refine z_sipush (v := (10003 : Int32)) dX2_readCondition_72 (by decide) rfl ?_
            refine z_callV k_X3_emit m_X2_119 (zRec_of (i_Ru hx1)) rfl h rfl (Nat.le_of_ble_eq_true rfl) dX2_readCondition_75 zy200 rfl ?_
            rintro v s10 ⟨rfl, hRs10, h⟩
            show zt l g (d + 1) M_X2_readCondition 78 [.ref 75, .ref x1, .int x2, .int r4] [] s10 _
            refine z_aload_n (i := 0) dX2_readCondition_78 rfl rfl rfl ?_
            refine z_sipush (v := (10003 : Int32)) dX2_readCondition_79 (by decide) rfl ?_
            refine z_callV k_X2_take m_X2_106 (zRec_of i_75) rfl h rfl (Nat.le_of_ble_eq_true rfl) dX2_readCondition_82 zy200 rfl ?_
            rintro v s11 ⟨b12, rfl, hRs11, h⟩
            show zt l g (d + 1) M_X2_readCondition 85 [.ref 75, .ref x1, .int x2, .int r4] [.int (zb b12)] s11 _
            refine z_ifb_ne (pt := 90) dX2_readCondition_85 (by decide) rfl (fun c => ?_) (fun c => ?_)
            · have h := zit h c
              refine z_iinc (v := x2 + (1 : Int32)) dX2_readCondition_90 rfl rfl (by decide) (zokd rfl) rfl ?_
              show zt l g (d + 1) M_X2_readCondition 93 [.ref 75, .ref x1, .int (x2 + (1 : Int32)), .int r4] [] s11 _
              refine z_goto (pn := 2) dX2_readCondition_93 (by decide) ?_
              refine z_wk (ls' := [.ref 75, .ref x1, .int (x2 + (1 : Int32)), zJ]) ⟨Or.inr rfl, Or.inr rfl, Or.inr rfl, Or.inl rfl, trivial⟩ ?_
              exact h
            · have h := zif h (by rw [c]; exact Bool.false_ne_true)
              refine z_iconst (v := (1 : Int32)) dX2_readCondition_88 (by decide) rfl ?_
              exact z_ret (some (.int (zb true))) (Or.inr (Or.inl ⟨_, _, rfl, rfl, zb_nar _, dX2_readCondition_89⟩)) zN200 ⟨_, rfl, h⟩
        · have h := zif h (by rw [c]; exact Bool.false_ne_true)
          refine z_iconst (v := (0 : Int32)) dX2_readCondition_60 (by decide) rfl ?_
          exact z_ret (some (.int (zb false))) (Or.inr (Or.inl ⟨_, _, rfl, rfl, zb_nar _, dX2_readCondition_61⟩)) zN200 ⟨_, rfl, h⟩
      · have h := zif h c
        refine z_iload_n (i := 3) dX2_readCondition_32 rfl rfl rfl ?_
        refine z_sipush (v := (20061 : Int32)) dX2_readCondition_33 (by decide) rfl ?_
        refine z_icmp_eq (pt := 41) dX2_readCondition_36 (by decide) rfl (fun c => ?_) (fun c => ?_)
        · have h := zit h c
          refine z_aload_n (i := 0) dX2_readCondition_41 rfl rfl rfl ?_
          refine z_dup dX2_readCondition_42 rfl rfl ?_
          refine z_getI (x := s3.1 75 5) rfl f_X2_33 i_75 rfl dX2_readCondition_43 rfl ?_
          refine z_iconst (v := (1 : Int32)) dX2_readCondition_46 (by decide) rfl ?_
          refine z_iadd dX2_readCondition_47 rfl ?_
          refine z_putI f_X2_33 i_75 rfl (Or.inl rfl) rfl rfl dX2_readCondition_48 rfl ?_
          refine z_aload_n (i := 0) dX2_readCondition_51 rfl rfl rfl ?_
          refine z_aload_n (i := 1) dX2_readCondition_52 rfl rfl rfl ?_
          refine z_iconst (v := (0 : Int32)) dX2_readCondition_53 (by decide) rfl ?_
          refine z_callV k_X2_readSum m_X2_98 (zRec_of i_75) rfl h rfl (Nat.le_of_ble_eq_true rfl) dX2_readCondition_54 zy200 rfl ?_
          rintro v s13 ⟨b14, rfl, hRs13, h⟩
          show zt l g (d + 1) M_X2_readCondition 57 [.ref 75, .ref x1, .int x2, .int r4] [.int (zb b14)] s13 _
          refine z_ifb_ne (pt := 62) dX2_readCondition_57 (by decide) rfl (fun c => ?_) (fun c => ?_)
          · have h := zit h c
            refine z_aload_n (i := 1) dX2_readCondition_62 rfl rfl rfl ?_
            refine z_iload_n (i := 3) dX2_readCondition_63 rfl rfl rfl ?_
            refine z_callV k_X3_emit m_X2_119 (zRec_of (i_Ru hx1)) rfl h rfl (Nat.le_of_ble_eq_true rfl) dX2_readCondition_64 zy200 rfl ?_
            rintro v s15 ⟨rfl, hRs15, h⟩
            show zt l g (d + 1) M_X2_readCondition 67 [.ref 75, .ref x1, .int x2, .int r4] [] s15 _
            refine z_iload_n (i := 2) dX2_readCondition_67 rfl rfl rfl ?_
            refine z_if_le (pt := 78) dX2_readCondition_68 (by decide) rfl (fun c => ?_) (fun c => ?_)
            · have h := zit h c
              refine z_aload_n (i := 0) dX2_readCondition_78 rfl rfl rfl ?_
              refine z_sipush (v := (10003 : Int32)) dX2_readCondition_79 (by decide) rfl ?_
              refine z_callV k_X2_take m_X2_106 (zRec_of i_75) rfl h rfl (Nat.le_of_ble_eq_true rfl) dX2_readCondition_82 zy200 rfl ?_
              rintro v s16 ⟨b17, rfl, hRs16, h⟩
              show zt l g (d + 1) M_X2_readCondition 85 [.ref 75, .ref x1, .int x2, .int r4] [.int (zb b17)] s16 _
              refine z_ifb_ne (pt := 90) dX2_readCondition_85 (by decide) rfl (fun c => ?_) (fun c => ?_)
              · have h := zit h c
                refine z_iinc (v := x2 + (1 : Int32)) dX2_readCondition_90 rfl rfl (by decide) (zokd rfl) rfl ?_
                show zt l g (d + 1) M_X2_readCondition 93 [.ref 75, .ref x1, .int (x2 + (1 : Int32)), .int r4] [] s16 _
                refine z_goto (pn := 2) dX2_readCondition_93 (by decide) ?_
                refine z_wk (ls' := [.ref 75, .ref x1, .int (x2 + (1 : Int32)), zJ]) ⟨Or.inr rfl, Or.inr rfl, Or.inr rfl, Or.inl rfl, trivial⟩ ?_
                exact h
              · have h := zif h (by rw [c]; exact Bool.false_ne_true)
                refine z_iconst (v := (1 : Int32)) dX2_readCondition_88 (by decide) rfl ?_
                exact z_ret (some (.int (zb true))) (Or.inr (Or.inl ⟨_, _, rfl, rfl, zb_nar _, dX2_readCondition_89⟩)) zN200 ⟨_, rfl, h⟩
            · have h := zif h c
              refine z_aload_n (i := 1) dX2_readCondition_71 rfl rfl rfl ?_
              refine z_sipush (v := (10003 : Int32)) dX2_readCondition_72 (by decide) rfl ?_
              refine z_callV k_X3_emit m_X2_119 (zRec_of (i_Ru hx1)) rfl h rfl (Nat.le_of_ble_eq_true rfl) dX2_readCondition_75 zy200 rfl ?_
              rintro v s18 ⟨rfl, hRs18, h⟩
              show zt l g (d + 1) M_X2_readCondition 78 [.ref 75, .ref x1, .int x2, .int r4] [] s18 _
              refine z_aload_n (i := 0) dX2_readCondition_78 rfl rfl rfl ?_
              refine z_sipush (v := (10003 : Int32)) dX2_readCondition_79 (by decide) rfl ?_
              refine z_callV k_X2_take m_X2_106 (zRec_of i_75) rfl h rfl (Nat.le_of_ble_eq_true rfl) dX2_readCondition_82 zy200 rfl ?_
              rintro v s19 ⟨b20, rfl, hRs19, h⟩
              show zt l g (d + 1) M_X2_readCondition 85 [.ref 75, .ref x1, .int x2, .int r4] [.int (zb b20)] s19 _
              refine z_ifb_ne (pt := 90) dX2_readCondition_85 (by decide) rfl (fun c => ?_) (fun c => ?_)
              · have h := zit h c
                refine z_iinc (v := x2 + (1 : Int32)) dX2_readCondition_90 rfl rfl (by decide) (zokd rfl) rfl ?_
                show zt l g (d + 1) M_X2_readCondition 93 [.ref 75, .ref x1, .int (x2 + (1 : Int32)), .int r4] [] s19 _
                refine z_goto (pn := 2) dX2_readCondition_93 (by decide) ?_
                refine z_wk (ls' := [.ref 75, .ref x1, .int (x2 + (1 : Int32)), zJ]) ⟨Or.inr rfl, Or.inr rfl, Or.inr rfl, Or.inl rfl, trivial⟩ ?_
                exact h
              · have h := zif h (by rw [c]; exact Bool.false_ne_true)
                refine z_iconst (v := (1 : Int32)) dX2_readCondition_88 (by decide) rfl ?_
                exact z_ret (some (.int (zb true))) (Or.inr (Or.inl ⟨_, _, rfl, rfl, zb_nar _, dX2_readCondition_89⟩)) zN200 ⟨_, rfl, h⟩
          · have h := zif h (by rw [c]; exact Bool.false_ne_true)
            refine z_iconst (v := (0 : Int32)) dX2_readCondition_60 (by decide) rfl ?_
            exact z_ret (some (.int (zb false))) (Or.inr (Or.inl ⟨_, _, rfl, rfl, zb_nar _, dX2_readCondition_61⟩)) zN200 ⟨_, rfl, h⟩
        · have h := zif h c
          refine z_iconst (v := (0 : Int32)) dX2_readCondition_39 (by decide) rfl ?_
          exact z_ret (some (.int (zb false))) (Or.inr (Or.inl ⟨_, _, rfl, rfl, zb_nar _, dX2_readCondition_40⟩)) zN200 ⟨_, rfl, h⟩
    · have h := zif h (by rw [c]; exact Bool.false_ne_true)
      refine z_iconst (v := (0 : Int32)) dX2_readCondition_18 (by decide) rfl ?_
      exact z_ret (some (.int (zb false))) (Or.inr (Or.inl ⟨_, _, rfl, rfl, zb_nar _, dX2_readCondition_19⟩)) zN200 ⟨_, rfl, h⟩
theorem dX2_readSum_0 : decode cX2_readSum 0 = .ok (.aload_n 0, 1) := by decide +kernel
theorem dX2_readSum_1 : decode cX2_readSum 1 = .ok (.aload_n 1, 1) := by decide +kernel
theorem dX2_readSum_2 : decode cX2_readSum 2 = .ok (.iload_n 2, 1) := by decide +kernel
theorem dX2_readSum_3 : decode cX2_readSum 3 = .ok (.invokevirtual 122, 3) := by decide +kernel
theorem dX2_readSum_6 : decode cX2_readSum 6 = .ok (.ifCond .ne 5, 3) := by decide +kernel
theorem dX2_readSum_9 : decode cX2_readSum 9 = .ok (.iconst 0, 1) := by decide +kernel
theorem dX2_readSum_10 : decode cX2_readSum 10 = .ok (.ireturn, 1) := by decide +kernel
theorem dX2_readSum_11 : decode cX2_readSum 11 = .ok (.iconst 0, 1) := by decide +kernel
theorem dX2_readSum_12 : decode cX2_readSum 12 = .ok (.istore_n 3, 1) := by decide +kernel
theorem dX2_readSum_13 : decode cX2_readSum 13 = .ok (.iload_n 3, 1) := by decide +kernel
theorem dX2_readSum_14 : decode cX2_readSum 14 = .ok (.sipush 400, 3) := by decide +kernel
theorem dX2_readSum_17 : decode cX2_readSum 17 = .ok (.if_icmp .ge 60, 3) := by decide +kernel
theorem dX2_readSum_20 : decode cX2_readSum 20 = .ok (.aload_n 0, 1) := by decide +kernel
theorem dX2_readSum_21 : decode cX2_readSum 21 = .ok (.invokevirtual 36, 3) := by decide +kernel
theorem dX2_readSum_24 : decode cX2_readSum 24 = .ok (.istore 4, 2) := by decide +kernel
theorem dX2_readSum_26 : decode cX2_readSum 26 = .ok (.iload 4, 2) := by decide +kernel
theorem dX2_readSum_28 : decode cX2_readSum 28 = .ok (.sipush 20043, 3) := by decide +kernel
theorem dX2_readSum_31 : decode cX2_readSum 31 = .ok (.if_icmp .eq 13, 3) := by decide +kernel
theorem dX2_readSum_34 : decode cX2_readSum 34 = .ok (.iload 4, 2) := by decide +kernel
theorem dX2_readSum_36 : decode cX2_readSum 36 = .ok (.sipush 20045, 3) := by decide +kernel
theorem dX2_readSum_39 : decode cX2_readSum 39 = .ok (.if_icmp .eq 5, 3) := by decide +kernel
theorem dX2_readSum_42 : decode cX2_readSum 42 = .ok (.iconst 1, 1) := by decide +kernel
theorem dX2_readSum_43 : decode cX2_readSum 43 = .ok (.ireturn, 1) := by decide +kernel
theorem dX2_readSum_44 : decode cX2_readSum 44 = .ok (.aload_n 0, 1) := by decide +kernel
theorem dX2_readSum_45 : decode cX2_readSum 45 = .ok (.dup, 1) := by decide +kernel
theorem dX2_readSum_46 : decode cX2_readSum 46 = .ok (.getfield 33, 3) := by decide +kernel
theorem dX2_readSum_49 : decode cX2_readSum 49 = .ok (.iconst 1, 1) := by decide +kernel
theorem dX2_readSum_50 : decode cX2_readSum 50 = .ok (.iadd, 1) := by decide +kernel
theorem dX2_readSum_51 : decode cX2_readSum 51 = .ok (.putfield 33, 3) := by decide +kernel
theorem dX2_readSum_54 : decode cX2_readSum 54 = .ok (.aload_n 0, 1) := by decide +kernel
theorem dX2_readSum_55 : decode cX2_readSum 55 = .ok (.aload_n 1, 1) := by decide +kernel
theorem dX2_readSum_56 : decode cX2_readSum 56 = .ok (.iload_n 2, 1) := by decide +kernel
theorem dX2_readSum_57 : decode cX2_readSum 57 = .ok (.invokevirtual 122, 3) := by decide +kernel
theorem dX2_readSum_60 : decode cX2_readSum 60 = .ok (.ifCond .ne 5, 3) := by decide +kernel
theorem dX2_readSum_63 : decode cX2_readSum 63 = .ok (.iconst 0, 1) := by decide +kernel
theorem dX2_readSum_64 : decode cX2_readSum 64 = .ok (.ireturn, 1) := by decide +kernel
theorem dX2_readSum_65 : decode cX2_readSum 65 = .ok (.aload_n 1, 1) := by decide +kernel
theorem dX2_readSum_66 : decode cX2_readSum 66 = .ok (.iload 4, 2) := by decide +kernel
theorem dX2_readSum_68 : decode cX2_readSum 68 = .ok (.invokevirtual 119, 3) := by decide +kernel
theorem dX2_readSum_71 : decode cX2_readSum 71 = .ok (.iinc 3 1, 3) := by decide +kernel
theorem dX2_readSum_74 : decode cX2_readSum 74 = .ok (.goto (-61), 3) := by decide +kernel
theorem dX2_readSum_77 : decode cX2_readSum 77 = .ok (.iconst 0, 1) := by decide +kernel
theorem dX2_readSum_78 : decode cX2_readSum 78 = .ok (.ireturn, 1) := by decide +kernel
set_option maxHeartbeats 4000000 in
set_option maxRecDepth 100000 in
theorem t_X2_readSum {l : Launch} {g : zG} {d : Nat} {s : zS} (hR : zRok s) {p0 : Nat} (hp0 : p0 = 79 ∨ p0 = 85) {p1 : Int32} {K : Bool → zS → Prop} (h : (zc l g d M_X2_readProduct [.ref 75, .ref p0, .int p1] s (zKz (fun b2 s1 => s1.2.2.1 = s.2.2.1 ∧ (if b2 = true then zt l g (d + 1) M_X2_readSum 13 [.ref 75, .ref p0, .int p1, .int (0 : Int32), zJ] [] s1 (zKz K) else K false s1))))) : zc l g (d + 1) M_X2_readSum [.ref 75, .ref p0, .int p1] s (zKz K) := by
  refine zCall_of k_X2_readSum (Nat.le_of_ble_eq_true rfl) (Nat.le_refl _) (fun _ => ?_)
  show zt l g (d + 1) M_X2_readSum 0 [.ref 75, .ref p0, .int p1, zJ, zJ] [] s (zKz K)
  refine z_aload_n (i := 0) dX2_readSum_0 rfl rfl rfl ?_
  refine z_aload_n (i := 1) dX2_readSum_1 rfl rfl rfl ?_
  refine z_iload_n (i := 2) dX2_readSum_2 rfl rfl rfl ?_
  refine z_callV k_X2_readProduct m_X2_122 (zRec_of i_75) rfl h rfl (Nat.le_of_ble_eq_true rfl) dX2_readSum_3 zy200 rfl ?_
  rintro v s1 ⟨b2, rfl, hRs1, h⟩
  show zt l g (d + 1) M_X2_readSum 6 [.ref 75, .ref p0, .int p1, zJ, zJ] [.int (zb b2)] s1 _
  refine z_ifb_ne (pt := 11) dX2_readSum_6 (by decide) rfl (fun c => ?_) (fun c => ?_)
  · have h := zit h c
    refine z_iconst (v := (0 : Int32)) dX2_readSum_11 (by decide) rfl ?_
    refine z_istore_n (i := 3) dX2_readSum_12 rfl (by decide) (zokd rfl) rfl ?_
    show zt l g (d + 1) M_X2_readSum 13 [.ref 75, .ref p0, .int p1, .int (0 : Int32), zJ] [] s1 _
    exact h
  · have h := zif h (by rw [c]; exact Bool.false_ne_true)
    refine z_iconst (v := (0 : Int32)) dX2_readSum_9 (by decide) rfl ?_
    exact z_ret (some (.int (zb false))) (Or.inr (Or.inl ⟨_, _, rfl, rfl, zb_nar _, dX2_readSum_10⟩)) zN200 ⟨_, rfl, h⟩
set_option maxHeartbeats 4000000 in
set_option maxRecDepth 100000 in
theorem t_X2_readSum_13 {l : Launch} {g : zG} {d : Nat} {s : zS} (hR : zRok s) {x1 : Nat} (hx1 : x1 = 79 ∨ x1 = 85) {x2 : Int32} {x3 : Int32} {K : Bool → zS → Prop} (h : (if (400 : Int32) ≤ x3 then K false s else (zc l g d M_X2_token [.ref 75] s (zKi (fun r2 s1 => s1.2.2.1 = s.2.2.1 ∧ (if r2 = (20043 : Int32) then (zc l g d M_X2_readProduct [.ref 75, .ref x1, .int x2] (zI s1 75 5 ((s1.1 75 5) + (1 : Int32))) (zKz (fun b4 s3 => s3.2.2.1 = s1.2.2.1 ∧ (if b4 = true then (zc l g d M_X3_emit [.ref x1, .int r2] s3 (zKv (fun s5 => s5.2.2.1 = s3.2.2.1 ∧ zt l g (d + 1) M_X2_readSum 13 [.ref 75, .ref x1, .int x2, .int (x3 + (1 : Int32)), zJ] [] s5 (zKz K)))) else K false s3)))) else (if r2 = (20045 : Int32) then (zc l g d M_X2_readProduct [.ref 75, .ref x1, .int x2] (zI s1 75 5 ((s1.1 75 5) + (1 : Int32))) (zKz (fun b7 s6 => s6.2.2.1 = s1.2.2.1 ∧ (if b7 = true then (zc l g d M_X3_emit [.ref x1, .int r2] s6 (zKv (fun s8 => s8.2.2.1 = s6.2.2.1 ∧ zt l g (d + 1) M_X2_readSum 13 [.ref 75, .ref x1, .int x2, .int (x3 + (1 : Int32)), zJ] [] s8 (zKz K)))) else K false s6)))) else K true s1))))))) : zt l g (d + 1) M_X2_readSum 13 [.ref 75, .ref x1, .int x2, .int x3, zJ] [] s (zKz K) := by
  refine z_iload_n (i := 3) dX2_readSum_13 rfl rfl rfl ?_
  refine z_sipush (v := (400 : Int32)) dX2_readSum_14 (by decide) rfl ?_
  refine z_icmp_ge (pt := 77) dX2_readSum_17 (by decide) rfl (fun c => ?_) (fun c => ?_)
  · have h := zit h c
    refine z_iconst (v := (0 : Int32)) dX2_readSum_77 (by decide) rfl ?_
    exact z_ret (some (.int (zb false))) (Or.inr (Or.inl ⟨_, _, rfl, rfl, zb_nar _, dX2_readSum_78⟩)) zN200 ⟨_, rfl, h⟩
  · have h := zif h c
    refine z_aload_n (i := 0) dX2_readSum_20 rfl rfl rfl ?_
    refine z_callV k_X2_token m_X2_36 (zRec_of i_75) rfl h rfl (Nat.le_of_ble_eq_true rfl) dX2_readSum_21 zy200 rfl ?_
    rintro v s1 ⟨r2, rfl, hRs1, h⟩
    show zt l g (d + 1) M_X2_readSum 24 [.ref 75, .ref x1, .int x2, .int x3, zJ] [.int r2] s1 _
    refine z_istore dX2_readSum_24 (by decide) (zokd rfl) rfl ?_
    show zt l g (d + 1) M_X2_readSum 26 [.ref 75, .ref x1, .int x2, .int x3, .int r2] [] s1 _
    refine z_iload dX2_readSum_26 rfl rfl ?_
    refine z_sipush (v := (20043 : Int32)) dX2_readSum_28 (by decide) rfl ?_
    refine z_icmp_eq (pt := 44) dX2_readSum_31 (by decide) rfl (fun c => ?_) (fun c => ?_)
    · have h := zit h c
      refine z_aload_n (i := 0) dX2_readSum_44 rfl rfl rfl ?_
      refine z_dup dX2_readSum_45 rfl rfl ?_
      refine z_getI (x := s1.1 75 5) rfl f_X2_33 i_75 rfl dX2_readSum_46 rfl ?_
      refine z_iconst (v := (1 : Int32)) dX2_readSum_49 (by decide) rfl ?_
      refine z_iadd dX2_readSum_50 rfl ?_
      refine z_putI f_X2_33 i_75 rfl (Or.inl rfl) rfl rfl dX2_readSum_51 rfl ?_
      refine z_aload_n (i := 0) dX2_readSum_54 rfl rfl rfl ?_
      refine z_aload_n (i := 1) dX2_readSum_55 rfl rfl rfl ?_
      refine z_iload_n (i := 2) dX2_readSum_56 rfl rfl rfl ?_
      refine z_callV k_X2_readProduct m_X2_122 (zRec_of i_75) rfl h rfl (Nat.le_of_ble_eq_true rfl) dX2_readSum_57 zy200 rfl ?_
      rintro v s3 ⟨b4, rfl, hRs3, h⟩
      show zt l g (d + 1) M_X2_readSum 60 [.ref 75, .ref x1, .int x2, .int x3, .int r2] [.int (zb b4)] s3 _
      refine z_ifb_ne (pt := 65) dX2_readSum_60 (by decide) rfl (fun c => ?_) (fun c => ?_)
      · have h := zit h c
        refine z_aload_n (i := 1) dX2_readSum_65 rfl rfl rfl ?_
        refine z_iload dX2_readSum_66 rfl rfl ?_
        refine z_callV k_X3_emit m_X2_119 (zRec_of (i_Ru hx1)) rfl h rfl (Nat.le_of_ble_eq_true rfl) dX2_readSum_68 zy200 rfl ?_
        rintro v s5 ⟨rfl, hRs5, h⟩
        show zt l g (d + 1) M_X2_readSum 71 [.ref 75, .ref x1, .int x2, .int x3, .int r2] [] s5 _
        refine z_iinc (v := x3 + (1 : Int32)) dX2_readSum_71 rfl rfl (by decide) (zokd rfl) rfl ?_
        show zt l g (d + 1) M_X2_readSum 74 [.ref 75, .ref x1, .int x2, .int (x3 + (1 : Int32)), .int r2] [] s5 _
        refine z_goto (pn := 13) dX2_readSum_74 (by decide) ?_
        refine z_wk (ls' := [.ref 75, .ref x1, .int x2, .int (x3 + (1 : Int32)), zJ]) ⟨Or.inr rfl, Or.inr rfl, Or.inr rfl, Or.inr rfl, Or.inl rfl, trivial⟩ ?_
        exact h
      · have h := zif h (by rw [c]; exact Bool.false_ne_true)
        refine z_iconst (v := (0 : Int32)) dX2_readSum_63 (by decide) rfl ?_
        exact z_ret (some (.int (zb false))) (Or.inr (Or.inl ⟨_, _, rfl, rfl, zb_nar _, dX2_readSum_64⟩)) zN200 ⟨_, rfl, h⟩
    · have h := zif h c
      refine z_iload dX2_readSum_34 rfl rfl ?_
      refine z_sipush (v := (20045 : Int32)) dX2_readSum_36 (by decide) rfl ?_
      refine z_icmp_eq (pt := 44) dX2_readSum_39 (by decide) rfl (fun c => ?_) (fun c => ?_)
      · have h := zit h c
        refine z_aload_n (i := 0) dX2_readSum_44 rfl rfl rfl ?_
        refine z_dup dX2_readSum_45 rfl rfl ?_
        refine z_getI (x := s1.1 75 5) rfl f_X2_33 i_75 rfl dX2_readSum_46 rfl ?_
        refine z_iconst (v := (1 : Int32)) dX2_readSum_49 (by decide) rfl ?_
        refine z_iadd dX2_readSum_50 rfl ?_
        refine z_putI f_X2_33 i_75 rfl (Or.inl rfl) rfl rfl dX2_readSum_51 rfl ?_
        refine z_aload_n (i := 0) dX2_readSum_54 rfl rfl rfl ?_
        refine z_aload_n (i := 1) dX2_readSum_55 rfl rfl rfl ?_
        refine z_iload_n (i := 2) dX2_readSum_56 rfl rfl rfl ?_
        refine z_callV k_X2_readProduct m_X2_122 (zRec_of i_75) rfl h rfl (Nat.le_of_ble_eq_true rfl) dX2_readSum_57 zy200 rfl ?_
        rintro v s6 ⟨b7, rfl, hRs6, h⟩
        show zt l g (d + 1) M_X2_readSum 60 [.ref 75, .ref x1, .int x2, .int x3, .int r2] [.int (zb b7)] s6 _
        refine z_ifb_ne (pt := 65) dX2_readSum_60 (by decide) rfl (fun c => ?_) (fun c => ?_)
        · have h := zit h c
          refine z_aload_n (i := 1) dX2_readSum_65 rfl rfl rfl ?_
          refine z_iload dX2_readSum_66 rfl rfl ?_
          refine z_callV k_X3_emit m_X2_119 (zRec_of (i_Ru hx1)) rfl h rfl (Nat.le_of_ble_eq_true rfl) dX2_readSum_68 zy200 rfl ?_
          rintro v s8 ⟨rfl, hRs8, h⟩
          show zt l g (d + 1) M_X2_readSum 71 [.ref 75, .ref x1, .int x2, .int x3, .int r2] [] s8 _
          refine z_iinc (v := x3 + (1 : Int32)) dX2_readSum_71 rfl rfl (by decide) (zokd rfl) rfl ?_
          show zt l g (d + 1) M_X2_readSum 74 [.ref 75, .ref x1, .int x2, .int (x3 + (1 : Int32)), .int r2] [] s8 _
          refine z_goto (pn := 13) dX2_readSum_74 (by decide) ?_
          refine z_wk (ls' := [.ref 75, .ref x1, .int x2, .int (x3 + (1 : Int32)), zJ]) ⟨Or.inr rfl, Or.inr rfl, Or.inr rfl, Or.inr rfl, Or.inl rfl, trivial⟩ ?_
          exact h
        · have h := zif h (by rw [c]; exact Bool.false_ne_true)
          refine z_iconst (v := (0 : Int32)) dX2_readSum_63 (by decide) rfl ?_
          exact z_ret (some (.int (zb false))) (Or.inr (Or.inl ⟨_, _, rfl, rfl, zb_nar _, dX2_readSum_64⟩)) zN200 ⟨_, rfl, h⟩
      · have h := zif h c
        refine z_iconst (v := (1 : Int32)) dX2_readSum_42 (by decide) rfl ?_
        exact z_ret (some (.int (zb true))) (Or.inr (Or.inl ⟨_, _, rfl, rfl, zb_nar _, dX2_readSum_43⟩)) zN200 ⟨_, rfl, h⟩
theorem dX2_readProduct_0 : decode cX2_readProduct 0 = .ok (.aload_n 0, 1) := by decide +kernel
theorem dX2_readProduct_1 : decode cX2_readProduct 1 = .ok (.aload_n 1, 1) := by decide +kernel
theorem dX2_readProduct_2 : decode cX2_readProduct 2 = .ok (.iload_n 2, 1) := by decide +kernel
theorem dX2_readProduct_3 : decode cX2_readProduct 3 = .ok (.invokevirtual 125, 3) := by decide +kernel
theorem dX2_readProduct_6 : decode cX2_readProduct 6 = .ok (.ifCond .ne 5, 3) := by decide +kernel
theorem dX2_readProduct_9 : decode cX2_readProduct 9 = .ok (.iconst 0, 1) := by decide +kernel
theorem dX2_readProduct_10 : decode cX2_readProduct 10 = .ok (.ireturn, 1) := by decide +kernel
theorem dX2_readProduct_11 : decode cX2_readProduct 11 = .ok (.iconst 0, 1) := by decide +kernel
theorem dX2_readProduct_12 : decode cX2_readProduct 12 = .ok (.istore_n 3, 1) := by decide +kernel
theorem dX2_readProduct_13 : decode cX2_readProduct 13 = .ok (.iload_n 3, 1) := by decide +kernel
theorem dX2_readProduct_14 : decode cX2_readProduct 14 = .ok (.sipush 400, 3) := by decide +kernel
theorem dX2_readProduct_17 : decode cX2_readProduct 17 = .ok (.if_icmp .ge 39, 3) := by decide +kernel
theorem dX2_readProduct_20 : decode cX2_readProduct 20 = .ok (.aload_n 0, 1) := by decide +kernel
theorem dX2_readProduct_21 : decode cX2_readProduct 21 = .ok (.sipush 20042, 3) := by decide +kernel
theorem dX2_readProduct_24 : decode cX2_readProduct 24 = .ok (.invokevirtual 106, 3) := by decide +kernel
theorem dX2_readProduct_27 : decode cX2_readProduct 27 = .ok (.ifCond .ne 5, 3) := by decide +kernel
theorem dX2_readProduct_30 : decode cX2_readProduct 30 = .ok (.iconst 1, 1) := by decide +kernel
theorem dX2_readProduct_31 : decode cX2_readProduct 31 = .ok (.ireturn, 1) := by decide +kernel
theorem dX2_readProduct_32 : decode cX2_readProduct 32 = .ok (.aload_n 0, 1) := by decide +kernel
theorem dX2_readProduct_33 : decode cX2_readProduct 33 = .ok (.aload_n 1, 1) := by decide +kernel
theorem dX2_readProduct_34 : decode cX2_readProduct 34 = .ok (.iload_n 2, 1) := by decide +kernel
theorem dX2_readProduct_35 : decode cX2_readProduct 35 = .ok (.invokevirtual 125, 3) := by decide +kernel
theorem dX2_readProduct_38 : decode cX2_readProduct 38 = .ok (.ifCond .ne 5, 3) := by decide +kernel
theorem dX2_readProduct_41 : decode cX2_readProduct 41 = .ok (.iconst 0, 1) := by decide +kernel
theorem dX2_readProduct_42 : decode cX2_readProduct 42 = .ok (.ireturn, 1) := by decide +kernel
theorem dX2_readProduct_43 : decode cX2_readProduct 43 = .ok (.aload_n 1, 1) := by decide +kernel
theorem dX2_readProduct_44 : decode cX2_readProduct 44 = .ok (.sipush 20042, 3) := by decide +kernel
theorem dX2_readProduct_47 : decode cX2_readProduct 47 = .ok (.invokevirtual 119, 3) := by decide +kernel
theorem dX2_readProduct_50 : decode cX2_readProduct 50 = .ok (.iinc 3 1, 3) := by decide +kernel
theorem dX2_readProduct_53 : decode cX2_readProduct 53 = .ok (.goto (-40), 3) := by decide +kernel
theorem dX2_readProduct_56 : decode cX2_readProduct 56 = .ok (.iconst 0, 1) := by decide +kernel
theorem dX2_readProduct_57 : decode cX2_readProduct 57 = .ok (.ireturn, 1) := by decide +kernel
set_option maxHeartbeats 4000000 in
set_option maxRecDepth 100000 in
theorem t_X2_readProduct {l : Launch} {g : zG} {d : Nat} {s : zS} (hR : zRok s) {p0 : Nat} (hp0 : p0 = 79 ∨ p0 = 85) {p1 : Int32} {K : Bool → zS → Prop} (h : (zc l g d M_X2_readFactor [.ref 75, .ref p0, .int p1] s (zKz (fun b2 s1 => s1.2.2.1 = s.2.2.1 ∧ (if b2 = true then zt l g (d + 1) M_X2_readProduct 13 [.ref 75, .ref p0, .int p1, .int (0 : Int32)] [] s1 (zKz K) else K false s1))))) : zc l g (d + 1) M_X2_readProduct [.ref 75, .ref p0, .int p1] s (zKz K) := by
  refine zCall_of k_X2_readProduct (Nat.le_of_ble_eq_true rfl) (Nat.le_refl _) (fun _ => ?_)
  show zt l g (d + 1) M_X2_readProduct 0 [.ref 75, .ref p0, .int p1, zJ] [] s (zKz K)
  refine z_aload_n (i := 0) dX2_readProduct_0 rfl rfl rfl ?_
  refine z_aload_n (i := 1) dX2_readProduct_1 rfl rfl rfl ?_
  refine z_iload_n (i := 2) dX2_readProduct_2 rfl rfl rfl ?_
  refine z_callV k_X2_readFactor m_X2_125 (zRec_of i_75) rfl h rfl (Nat.le_of_ble_eq_true rfl) dX2_readProduct_3 zy200 rfl ?_
  rintro v s1 ⟨b2, rfl, hRs1, h⟩
  show zt l g (d + 1) M_X2_readProduct 6 [.ref 75, .ref p0, .int p1, zJ] [.int (zb b2)] s1 _
  refine z_ifb_ne (pt := 11) dX2_readProduct_6 (by decide) rfl (fun c => ?_) (fun c => ?_)
  · have h := zit h c
    refine z_iconst (v := (0 : Int32)) dX2_readProduct_11 (by decide) rfl ?_
    refine z_istore_n (i := 3) dX2_readProduct_12 rfl (by decide) (zokd rfl) rfl ?_
    show zt l g (d + 1) M_X2_readProduct 13 [.ref 75, .ref p0, .int p1, .int (0 : Int32)] [] s1 _
    exact h
  · have h := zif h (by rw [c]; exact Bool.false_ne_true)
    refine z_iconst (v := (0 : Int32)) dX2_readProduct_9 (by decide) rfl ?_
    exact z_ret (some (.int (zb false))) (Or.inr (Or.inl ⟨_, _, rfl, rfl, zb_nar _, dX2_readProduct_10⟩)) zN200 ⟨_, rfl, h⟩
set_option maxHeartbeats 4000000 in
set_option maxRecDepth 100000 in
theorem t_X2_readProduct_13 {l : Launch} {g : zG} {d : Nat} {s : zS} (hR : zRok s) {x1 : Nat} (hx1 : x1 = 79 ∨ x1 = 85) {x2 : Int32} {x3 : Int32} {K : Bool → zS → Prop} (h : (if (400 : Int32) ≤ x3 then K false s else (zc l g d M_X2_take [.ref 75, .int (20042 : Int32)] s (zKz (fun b2 s1 => s1.2.2.1 = s.2.2.1 ∧ (if b2 = true then (zc l g d M_X2_readFactor [.ref 75, .ref x1, .int x2] s1 (zKz (fun b4 s3 => s3.2.2.1 = s1.2.2.1 ∧ (if b4 = true then (zc l g d M_X3_emit [.ref x1, .int (20042 : Int32)] s3 (zKv (fun s5 => s5.2.2.1 = s3.2.2.1 ∧ zt l g (d + 1) M_X2_readProduct 13 [.ref 75, .ref x1, .int x2, .int (x3 + (1 : Int32))] [] s5 (zKz K)))) else K false s3)))) else K true s1)))))) : zt l g (d + 1) M_X2_readProduct 13 [.ref 75, .ref x1, .int x2, .int x3] [] s (zKz K) := by
  refine z_iload_n (i := 3) dX2_readProduct_13 rfl rfl rfl ?_
  refine z_sipush (v := (400 : Int32)) dX2_readProduct_14 (by decide) rfl ?_
  refine z_icmp_ge (pt := 56) dX2_readProduct_17 (by decide) rfl (fun c => ?_) (fun c => ?_)
  · have h := zit h c
    refine z_iconst (v := (0 : Int32)) dX2_readProduct_56 (by decide) rfl ?_
    exact z_ret (some (.int (zb false))) (Or.inr (Or.inl ⟨_, _, rfl, rfl, zb_nar _, dX2_readProduct_57⟩)) zN200 ⟨_, rfl, h⟩
  · have h := zif h c
    refine z_aload_n (i := 0) dX2_readProduct_20 rfl rfl rfl ?_
    refine z_sipush (v := (20042 : Int32)) dX2_readProduct_21 (by decide) rfl ?_
    refine z_callV k_X2_take m_X2_106 (zRec_of i_75) rfl h rfl (Nat.le_of_ble_eq_true rfl) dX2_readProduct_24 zy200 rfl ?_
    rintro v s1 ⟨b2, rfl, hRs1, h⟩
    show zt l g (d + 1) M_X2_readProduct 27 [.ref 75, .ref x1, .int x2, .int x3] [.int (zb b2)] s1 _
    refine z_ifb_ne (pt := 32) dX2_readProduct_27 (by decide) rfl (fun c => ?_) (fun c => ?_)
    · have h := zit h c
      refine z_aload_n (i := 0) dX2_readProduct_32 rfl rfl rfl ?_
      refine z_aload_n (i := 1) dX2_readProduct_33 rfl rfl rfl ?_
      refine z_iload_n (i := 2) dX2_readProduct_34 rfl rfl rfl ?_
      refine z_callV k_X2_readFactor m_X2_125 (zRec_of i_75) rfl h rfl (Nat.le_of_ble_eq_true rfl) dX2_readProduct_35 zy200 rfl ?_
      rintro v s3 ⟨b4, rfl, hRs3, h⟩
      show zt l g (d + 1) M_X2_readProduct 38 [.ref 75, .ref x1, .int x2, .int x3] [.int (zb b4)] s3 _
      refine z_ifb_ne (pt := 43) dX2_readProduct_38 (by decide) rfl (fun c => ?_) (fun c => ?_)
      · have h := zit h c
        refine z_aload_n (i := 1) dX2_readProduct_43 rfl rfl rfl ?_
        refine z_sipush (v := (20042 : Int32)) dX2_readProduct_44 (by decide) rfl ?_
        refine z_callV k_X3_emit m_X2_119 (zRec_of (i_Ru hx1)) rfl h rfl (Nat.le_of_ble_eq_true rfl) dX2_readProduct_47 zy200 rfl ?_
        rintro v s5 ⟨rfl, hRs5, h⟩
        show zt l g (d + 1) M_X2_readProduct 50 [.ref 75, .ref x1, .int x2, .int x3] [] s5 _
        refine z_iinc (v := x3 + (1 : Int32)) dX2_readProduct_50 rfl rfl (by decide) (zokd rfl) rfl ?_
        show zt l g (d + 1) M_X2_readProduct 53 [.ref 75, .ref x1, .int x2, .int (x3 + (1 : Int32))] [] s5 _
        refine z_goto (pn := 13) dX2_readProduct_53 (by decide) ?_
        exact h
      · have h := zif h (by rw [c]; exact Bool.false_ne_true)
        refine z_iconst (v := (0 : Int32)) dX2_readProduct_41 (by decide) rfl ?_
        exact z_ret (some (.int (zb false))) (Or.inr (Or.inl ⟨_, _, rfl, rfl, zb_nar _, dX2_readProduct_42⟩)) zN200 ⟨_, rfl, h⟩
    · have h := zif h (by rw [c]; exact Bool.false_ne_true)
      refine z_iconst (v := (1 : Int32)) dX2_readProduct_30 (by decide) rfl ?_
      exact z_ret (some (.int (zb true))) (Or.inr (Or.inl ⟨_, _, rfl, rfl, zb_nar _, dX2_readProduct_31⟩)) zN200 ⟨_, rfl, h⟩
theorem dX2_readFactor_0 : decode cX2_readFactor 0 = .ok (.aload_n 0, 1) := by decide +kernel
theorem dX2_readFactor_1 : decode cX2_readFactor 1 = .ok (.invokevirtual 36, 3) := by decide +kernel
theorem dX2_readFactor_4 : decode cX2_readFactor 4 = .ok (.istore_n 3, 1) := by decide +kernel
theorem dX2_readFactor_5 : decode cX2_readFactor 5 = .ok (.iload_n 3, 1) := by decide +kernel
theorem dX2_readFactor_6 : decode cX2_readFactor 6 = .ok (.sipush 9999, 3) := by decide +kernel
theorem dX2_readFactor_9 : decode cX2_readFactor 9 = .ok (.if_icmp .le 17, 3) := by decide +kernel
theorem dX2_readFactor_12 : decode cX2_readFactor 12 = .ok (.iload_n 3, 1) := by decide +kernel
theorem dX2_readFactor_13 : decode cX2_readFactor 13 = .ok (.sipush 10011, 3) := by decide +kernel
theorem dX2_readFactor_16 : decode cX2_readFactor 16 = .ok (.if_icmp .lt 27, 3) := by decide +kernel
theorem dX2_readFactor_19 : decode cX2_readFactor 19 = .ok (.iload_n 3, 1) := by decide +kernel
theorem dX2_readFactor_20 : decode cX2_readFactor 20 = .ok (.sipush 10018, 3) := by decide +kernel
theorem dX2_readFactor_23 : decode cX2_readFactor 23 = .ok (.if_icmp .ge 20, 3) := by decide +kernel
theorem dX2_readFactor_26 : decode cX2_readFactor 26 = .ok (.aload_n 0, 1) := by decide +kernel
theorem dX2_readFactor_27 : decode cX2_readFactor 27 = .ok (.dup, 1) := by decide +kernel
theorem dX2_readFactor_28 : decode cX2_readFactor 28 = .ok (.getfield 33, 3) := by decide +kernel
theorem dX2_readFactor_31 : decode cX2_readFactor 31 = .ok (.iconst 1, 1) := by decide +kernel
theorem dX2_readFactor_32 : decode cX2_readFactor 32 = .ok (.iadd, 1) := by decide +kernel
theorem dX2_readFactor_33 : decode cX2_readFactor 33 = .ok (.putfield 33, 3) := by decide +kernel
theorem dX2_readFactor_36 : decode cX2_readFactor 36 = .ok (.aload_n 1, 1) := by decide +kernel
theorem dX2_readFactor_37 : decode cX2_readFactor 37 = .ok (.iload_n 3, 1) := by decide +kernel
theorem dX2_readFactor_38 : decode cX2_readFactor 38 = .ok (.invokevirtual 119, 3) := by decide +kernel
theorem dX2_readFactor_41 : decode cX2_readFactor 41 = .ok (.iconst 1, 1) := by decide +kernel
theorem dX2_readFactor_42 : decode cX2_readFactor 42 = .ok (.ireturn, 1) := by decide +kernel
theorem dX2_readFactor_43 : decode cX2_readFactor 43 = .ok (.iload_n 3, 1) := by decide +kernel
theorem dX2_readFactor_44 : decode cX2_readFactor 44 = .ok (.sipush 20040, 3) := by decide +kernel
theorem dX2_readFactor_47 : decode cX2_readFactor 47 = .ok (.if_icmp .ne 9, 3) := by decide +kernel
theorem dX2_readFactor_50 : decode cX2_readFactor 50 = .ok (.iload_n 2, 1) := by decide +kernel
theorem dX2_readFactor_51 : decode cX2_readFactor 51 = .ok (.bipush 8, 2) := by decide +kernel
theorem dX2_readFactor_53 : decode cX2_readFactor 53 = .ok (.if_icmp .lt 5, 3) := by decide +kernel
theorem dX2_readFactor_56 : decode cX2_readFactor 56 = .ok (.iconst 0, 1) := by decide +kernel
theorem dX2_readFactor_57 : decode cX2_readFactor 57 = .ok (.ireturn, 1) := by decide +kernel
theorem dX2_readFactor_58 : decode cX2_readFactor 58 = .ok (.aload_n 0, 1) := by decide +kernel
theorem dX2_readFactor_59 : decode cX2_readFactor 59 = .ok (.dup, 1) := by decide +kernel
theorem dX2_readFactor_60 : decode cX2_readFactor 60 = .ok (.getfield 33, 3) := by decide +kernel
theorem dX2_readFactor_63 : decode cX2_readFactor 63 = .ok (.iconst 1, 1) := by decide +kernel
theorem dX2_readFactor_64 : decode cX2_readFactor 64 = .ok (.iadd, 1) := by decide +kernel
theorem dX2_readFactor_65 : decode cX2_readFactor 65 = .ok (.putfield 33, 3) := by decide +kernel
theorem dX2_readFactor_68 : decode cX2_readFactor 68 = .ok (.aload_n 0, 1) := by decide +kernel
theorem dX2_readFactor_69 : decode cX2_readFactor 69 = .ok (.aload_n 1, 1) := by decide +kernel
theorem dX2_readFactor_70 : decode cX2_readFactor 70 = .ok (.iload_n 2, 1) := by decide +kernel
theorem dX2_readFactor_71 : decode cX2_readFactor 71 = .ok (.iconst 1, 1) := by decide +kernel
theorem dX2_readFactor_72 : decode cX2_readFactor 72 = .ok (.iadd, 1) := by decide +kernel
theorem dX2_readFactor_73 : decode cX2_readFactor 73 = .ok (.invokevirtual 98, 3) := by decide +kernel
theorem dX2_readFactor_76 : decode cX2_readFactor 76 = .ok (.ifCond .eq 17, 3) := by decide +kernel
theorem dX2_readFactor_79 : decode cX2_readFactor 79 = .ok (.aload_n 0, 1) := by decide +kernel
theorem dX2_readFactor_80 : decode cX2_readFactor 80 = .ok (.sipush 20041, 3) := by decide +kernel
theorem dX2_readFactor_83 : decode cX2_readFactor 83 = .ok (.invokevirtual 106, 3) := by decide +kernel
theorem dX2_readFactor_86 : decode cX2_readFactor 86 = .ok (.ifCond .eq 7, 3) := by decide +kernel
theorem dX2_readFactor_89 : decode cX2_readFactor 89 = .ok (.iconst 1, 1) := by decide +kernel
theorem dX2_readFactor_90 : decode cX2_readFactor 90 = .ok (.goto 4, 3) := by decide +kernel
theorem dX2_readFactor_93 : decode cX2_readFactor 93 = .ok (.iconst 0, 1) := by decide +kernel
theorem dX2_readFactor_94 : decode cX2_readFactor 94 = .ok (.ireturn, 1) := by decide +kernel
set_option maxHeartbeats 4000000 in
set_option maxRecDepth 100000 in
theorem t_X2_readFactor {l : Launch} {g : zG} {d : Nat} {s : zS} (hR : zRok s) {p0 : Nat} (hp0 : p0 = 79 ∨ p0 = 85) {p1 : Int32} {K : Bool → zS → Prop} (h : (zc l g d M_X2_token [.ref 75] s (zKi (fun r2 s1 => s1.2.2.1 = s.2.2.1 ∧ (if r2 ≤ (9999 : Int32) then (zc l g d M_X3_emit [.ref p0, .int r2] (zI s1 75 5 ((s1.1 75 5) + (1 : Int32))) (zKv (fun s3 => s3.2.2.1 = s1.2.2.1 ∧ K true s3))) else (if r2 < (10011 : Int32) then (if r2 = (20040 : Int32) then (if p1 < (8 : Int32) then (zc l g d M_X2_readSum [.ref 75, .ref p0, .int (p1 + (1 : Int32))] (zI s1 75 5 ((s1.1 75 5) + (1 : Int32))) (zKz (fun b5 s4 => s4.2.2.1 = s1.2.2.1 ∧ (if b5 = true then (zc l g d M_X2_take [.ref 75, .int (20041 : Int32)] s4 (zKz (fun b7 s6 => s6.2.2.1 = s4.2.2.1 ∧ (if b7 = true then K true s6 else K false s6)))) else K false s4)))) else K false s1) else K false s1) else (if (10018 : Int32) ≤ r2 then (if r2 = (20040 : Int32) then (if p1 < (8 : Int32) then (zc l g d M_X2_readSum [.ref 75, .ref p0, .int (p1 + (1 : Int32))] (zI s1 75 5 ((s1.1 75 5) + (1 : Int32))) (zKz (fun b9 s8 => s8.2.2.1 = s1.2.2.1 ∧ (if b9 = true then (zc l g d M_X2_take [.ref 75, .int (20041 : Int32)] s8 (zKz (fun b11 s10 => s10.2.2.1 = s8.2.2.1 ∧ (if b11 = true then K true s10 else K false s10)))) else K false s8)))) else K false s1) else K false s1) else (zc l g d M_X3_emit [.ref p0, .int r2] (zI s1 75 5 ((s1.1 75 5) + (1 : Int32))) (zKv (fun s12 => s12.2.2.1 = s1.2.2.1 ∧ K true s12)))))))))) : zc l g (d + 1) M_X2_readFactor [.ref 75, .ref p0, .int p1] s (zKz K) := by
  refine zCall_of k_X2_readFactor (Nat.le_of_ble_eq_true rfl) (Nat.le_refl _) (fun _ => ?_)
  show zt l g (d + 1) M_X2_readFactor 0 [.ref 75, .ref p0, .int p1, zJ] [] s (zKz K)
  refine z_aload_n (i := 0) dX2_readFactor_0 rfl rfl rfl ?_
  refine z_callV k_X2_token m_X2_36 (zRec_of i_75) rfl h rfl (Nat.le_of_ble_eq_true rfl) dX2_readFactor_1 zy200 rfl ?_
  rintro v s1 ⟨r2, rfl, hRs1, h⟩
  show zt l g (d + 1) M_X2_readFactor 4 [.ref 75, .ref p0, .int p1, zJ] [.int r2] s1 _
  refine z_istore_n (i := 3) dX2_readFactor_4 rfl (by decide) (zokd rfl) rfl ?_
  show zt l g (d + 1) M_X2_readFactor 5 [.ref 75, .ref p0, .int p1, .int r2] [] s1 _
  refine z_iload_n (i := 3) dX2_readFactor_5 rfl rfl rfl ?_
  refine z_sipush (v := (9999 : Int32)) dX2_readFactor_6 (by decide) rfl ?_
  refine z_icmp_le (pt := 26) dX2_readFactor_9 (by decide) rfl (fun c => ?_) (fun c => ?_)
  · have h := zit h c
    refine z_aload_n (i := 0) dX2_readFactor_26 rfl rfl rfl ?_
    refine z_dup dX2_readFactor_27 rfl rfl ?_
    refine z_getI (x := s1.1 75 5) rfl f_X2_33 i_75 rfl dX2_readFactor_28 rfl ?_
    refine z_iconst (v := (1 : Int32)) dX2_readFactor_31 (by decide) rfl ?_
    refine z_iadd dX2_readFactor_32 rfl ?_
    refine z_putI f_X2_33 i_75 rfl (Or.inl rfl) rfl rfl dX2_readFactor_33 rfl ?_
    refine z_aload_n (i := 1) dX2_readFactor_36 rfl rfl rfl ?_
    refine z_iload_n (i := 3) dX2_readFactor_37 rfl rfl rfl ?_
    refine z_callV k_X3_emit m_X2_119 (zRec_of (i_Ru hp0)) rfl h rfl (Nat.le_of_ble_eq_true rfl) dX2_readFactor_38 zy200 rfl ?_
    rintro v s3 ⟨rfl, hRs3, h⟩
    show zt l g (d + 1) M_X2_readFactor 41 [.ref 75, .ref p0, .int p1, .int r2] [] s3 _
    refine z_iconst (v := (1 : Int32)) dX2_readFactor_41 (by decide) rfl ?_
    exact z_ret (some (.int (zb true))) (Or.inr (Or.inl ⟨_, _, rfl, rfl, zb_nar _, dX2_readFactor_42⟩)) zN200 ⟨_, rfl, h⟩
  · have h := zif h c
    refine z_iload_n (i := 3) dX2_readFactor_12 rfl rfl rfl ?_
    refine z_sipush (v := (10011 : Int32)) dX2_readFactor_13 (by decide) rfl ?_
    refine z_icmp_lt (pt := 43) dX2_readFactor_16 (by decide) rfl (fun c => ?_) (fun c => ?_)
    · have h := zit h c
      refine z_iload_n (i := 3) dX2_readFactor_43 rfl rfl rfl ?_
      refine z_sipush (v := (20040 : Int32)) dX2_readFactor_44 (by decide) rfl ?_
      refine z_icmp_ne (pt := 56) dX2_readFactor_47 (by decide) rfl (fun c => ?_) (fun c => ?_)
      · have h := zif h c
        refine z_iconst (v := (0 : Int32)) dX2_readFactor_56 (by decide) rfl ?_
        exact z_ret (some (.int (zb false))) (Or.inr (Or.inl ⟨_, _, rfl, rfl, zb_nar _, dX2_readFactor_57⟩)) zN200 ⟨_, rfl, h⟩
      · have h := zit h c
        refine z_iload_n (i := 2) dX2_readFactor_50 rfl rfl rfl ?_
        refine z_bipush (v := (8 : Int32)) dX2_readFactor_51 (by decide) rfl ?_
        refine z_icmp_lt (pt := 58) dX2_readFactor_53 (by decide) rfl (fun c => ?_) (fun c => ?_)
        · have h := zit h c
          refine z_aload_n (i := 0) dX2_readFactor_58 rfl rfl rfl ?_
          refine z_dup dX2_readFactor_59 rfl rfl ?_
          refine z_getI (x := s1.1 75 5) rfl f_X2_33 i_75 rfl dX2_readFactor_60 rfl ?_
          refine z_iconst (v := (1 : Int32)) dX2_readFactor_63 (by decide) rfl ?_
          refine z_iadd dX2_readFactor_64 rfl ?_
          refine z_putI f_X2_33 i_75 rfl (Or.inl rfl) rfl rfl dX2_readFactor_65 rfl ?_
          refine z_aload_n (i := 0) dX2_readFactor_68 rfl rfl rfl ?_
          refine z_aload_n (i := 1) dX2_readFactor_69 rfl rfl rfl ?_
          refine z_iload_n (i := 2) dX2_readFactor_70 rfl rfl rfl ?_
          refine z_iconst (v := (1 : Int32)) dX2_readFactor_71 (by decide) rfl ?_
          refine z_iadd dX2_readFactor_72 rfl ?_
          refine z_callV k_X2_readSum m_X2_98 (zRec_of i_75) rfl h rfl (Nat.le_of_ble_eq_true rfl) dX2_readFactor_73 zy200 rfl ?_
          rintro v s4 ⟨b5, rfl, hRs4, h⟩
          show zt l g (d + 1) M_X2_readFactor 76 [.ref 75, .ref p0, .int p1, .int r2] [.int (zb b5)] s4 _
          refine z_ifb_eq (pt := 93) dX2_readFactor_76 (by decide) rfl (fun c => ?_) (fun c => ?_)
          · have h := zif h (by rw [c]; exact Bool.false_ne_true)
            refine z_iconst (v := (0 : Int32)) dX2_readFactor_93 (by decide) rfl ?_
            exact z_ret (some (.int (zb false))) (Or.inr (Or.inl ⟨_, _, rfl, rfl, zb_nar _, dX2_readFactor_94⟩)) zN200 ⟨_, rfl, h⟩
          · have h := zit h c
            refine z_aload_n (i := 0) dX2_readFactor_79 rfl rfl rfl ?_
            refine z_sipush (v := (20041 : Int32)) dX2_readFactor_80 (by decide) rfl ?_
            refine z_callV k_X2_take m_X2_106 (zRec_of i_75) rfl h rfl (Nat.le_of_ble_eq_true rfl) dX2_readFactor_83 zy200 rfl ?_
            rintro v s6 ⟨b7, rfl, hRs6, h⟩
            show zt l g (d + 1) M_X2_readFactor 86 [.ref 75, .ref p0, .int p1, .int r2] [.int (zb b7)] s6 _
            refine z_ifb_eq (pt := 93) dX2_readFactor_86 (by decide) rfl (fun c => ?_) (fun c => ?_)
            · have h := zif h (by rw [c]; exact Bool.false_ne_true)
              refine z_iconst (v := (0 : Int32)) dX2_readFactor_93 (by decide) rfl ?_
              exact z_ret (some (.int (zb false))) (Or.inr (Or.inl ⟨_, _, rfl, rfl, zb_nar _, dX2_readFactor_94⟩)) zN200 ⟨_, rfl, h⟩
            · have h := zit h c
              refine z_iconst (v := (1 : Int32)) dX2_readFactor_89 (by decide) rfl ?_
              refine z_goto (pn := 94) dX2_readFactor_90 (by decide) ?_
              exact z_ret (some (.int (zb true))) (Or.inr (Or.inl ⟨_, _, rfl, rfl, zb_nar _, dX2_readFactor_94⟩)) zN200 ⟨_, rfl, h⟩
        · have h := zif h c
          refine z_iconst (v := (0 : Int32)) dX2_readFactor_56 (by decide) rfl ?_
          exact z_ret (some (.int (zb false))) (Or.inr (Or.inl ⟨_, _, rfl, rfl, zb_nar _, dX2_readFactor_57⟩)) zN200 ⟨_, rfl, h⟩
    · have h := zif h c
      refine z_iload_n (i := 3) dX2_readFactor_19 rfl rfl rfl ?_
      refine z_sipush (v := (10018 : Int32)) dX2_readFactor_20 (by decide) rfl ?_
      refine z_icmp_ge (pt := 43) dX2_readFactor_23 (by decide) rfl (fun c => ?_) (fun c => ?_)
      · have h := zit h c
        refine z_iload_n (i := 3) dX2_readFactor_43 rfl rfl rfl ?_
        refine z_sipush (v := (20040 : Int32)) dX2_readFactor_44 (by decide) rfl ?_
        refine z_icmp_ne (pt := 56) dX2_readFactor_47 (by decide) rfl (fun c => ?_) (fun c => ?_)
        · have h := zif h c
          refine z_iconst (v := (0 : Int32)) dX2_readFactor_56 (by decide) rfl ?_
          exact z_ret (some (.int (zb false))) (Or.inr (Or.inl ⟨_, _, rfl, rfl, zb_nar _, dX2_readFactor_57⟩)) zN200 ⟨_, rfl, h⟩
        · have h := zit h c
          refine z_iload_n (i := 2) dX2_readFactor_50 rfl rfl rfl ?_
          refine z_bipush (v := (8 : Int32)) dX2_readFactor_51 (by decide) rfl ?_
          refine z_icmp_lt (pt := 58) dX2_readFactor_53 (by decide) rfl (fun c => ?_) (fun c => ?_)
          · have h := zit h c
            refine z_aload_n (i := 0) dX2_readFactor_58 rfl rfl rfl ?_
            refine z_dup dX2_readFactor_59 rfl rfl ?_
            refine z_getI (x := s1.1 75 5) rfl f_X2_33 i_75 rfl dX2_readFactor_60 rfl ?_
            refine z_iconst (v := (1 : Int32)) dX2_readFactor_63 (by decide) rfl ?_
            refine z_iadd dX2_readFactor_64 rfl ?_
            refine z_putI f_X2_33 i_75 rfl (Or.inl rfl) rfl rfl dX2_readFactor_65 rfl ?_
            refine z_aload_n (i := 0) dX2_readFactor_68 rfl rfl rfl ?_
            refine z_aload_n (i := 1) dX2_readFactor_69 rfl rfl rfl ?_
            refine z_iload_n (i := 2) dX2_readFactor_70 rfl rfl rfl ?_
            refine z_iconst (v := (1 : Int32)) dX2_readFactor_71 (by decide) rfl ?_
            refine z_iadd dX2_readFactor_72 rfl ?_
            refine z_callV k_X2_readSum m_X2_98 (zRec_of i_75) rfl h rfl (Nat.le_of_ble_eq_true rfl) dX2_readFactor_73 zy200 rfl ?_
            rintro v s8 ⟨b9, rfl, hRs8, h⟩
            show zt l g (d + 1) M_X2_readFactor 76 [.ref 75, .ref p0, .int p1, .int r2] [.int (zb b9)] s8 _
            refine z_ifb_eq (pt := 93) dX2_readFactor_76 (by decide) rfl (fun c => ?_) (fun c => ?_)
            · have h := zif h (by rw [c]; exact Bool.false_ne_true)
              refine z_iconst (v := (0 : Int32)) dX2_readFactor_93 (by decide) rfl ?_
              exact z_ret (some (.int (zb false))) (Or.inr (Or.inl ⟨_, _, rfl, rfl, zb_nar _, dX2_readFactor_94⟩)) zN200 ⟨_, rfl, h⟩
            · have h := zit h c
              refine z_aload_n (i := 0) dX2_readFactor_79 rfl rfl rfl ?_
              refine z_sipush (v := (20041 : Int32)) dX2_readFactor_80 (by decide) rfl ?_
              refine z_callV k_X2_take m_X2_106 (zRec_of i_75) rfl h rfl (Nat.le_of_ble_eq_true rfl) dX2_readFactor_83 zy200 rfl ?_
              rintro v s10 ⟨b11, rfl, hRs10, h⟩
              show zt l g (d + 1) M_X2_readFactor 86 [.ref 75, .ref p0, .int p1, .int r2] [.int (zb b11)] s10 _
              refine z_ifb_eq (pt := 93) dX2_readFactor_86 (by decide) rfl (fun c => ?_) (fun c => ?_)
              · have h := zif h (by rw [c]; exact Bool.false_ne_true)
                refine z_iconst (v := (0 : Int32)) dX2_readFactor_93 (by decide) rfl ?_
                exact z_ret (some (.int (zb false))) (Or.inr (Or.inl ⟨_, _, rfl, rfl, zb_nar _, dX2_readFactor_94⟩)) zN200 ⟨_, rfl, h⟩
              · have h := zit h c
                refine z_iconst (v := (1 : Int32)) dX2_readFactor_89 (by decide) rfl ?_
                refine z_goto (pn := 94) dX2_readFactor_90 (by decide) ?_
                exact z_ret (some (.int (zb true))) (Or.inr (Or.inl ⟨_, _, rfl, rfl, zb_nar _, dX2_readFactor_94⟩)) zN200 ⟨_, rfl, h⟩
          · have h := zif h c
            refine z_iconst (v := (0 : Int32)) dX2_readFactor_56 (by decide) rfl ?_
            exact z_ret (some (.int (zb false))) (Or.inr (Or.inl ⟨_, _, rfl, rfl, zb_nar _, dX2_readFactor_57⟩)) zN200 ⟨_, rfl, h⟩
      · have h := zif h c
        refine z_aload_n (i := 0) dX2_readFactor_26 rfl rfl rfl ?_
        refine z_dup dX2_readFactor_27 rfl rfl ?_
        refine z_getI (x := s1.1 75 5) rfl f_X2_33 i_75 rfl dX2_readFactor_28 rfl ?_
        refine z_iconst (v := (1 : Int32)) dX2_readFactor_31 (by decide) rfl ?_
        refine z_iadd dX2_readFactor_32 rfl ?_
        refine z_putI f_X2_33 i_75 rfl (Or.inl rfl) rfl rfl dX2_readFactor_33 rfl ?_
        refine z_aload_n (i := 1) dX2_readFactor_36 rfl rfl rfl ?_
        refine z_iload_n (i := 3) dX2_readFactor_37 rfl rfl rfl ?_
        refine z_callV k_X3_emit m_X2_119 (zRec_of (i_Ru hp0)) rfl h rfl (Nat.le_of_ble_eq_true rfl) dX2_readFactor_38 zy200 rfl ?_
        rintro v s12 ⟨rfl, hRs12, h⟩
        show zt l g (d + 1) M_X2_readFactor 41 [.ref 75, .ref p0, .int p1, .int r2] [] s12 _
        refine z_iconst (v := (1 : Int32)) dX2_readFactor_41 (by decide) rfl ?_
        exact z_ret (some (.int (zb true))) (Or.inr (Or.inl ⟨_, _, rfl, rfl, zb_nar _, dX2_readFactor_42⟩)) zN200 ⟨_, rfl, h⟩
