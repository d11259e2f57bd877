theorem dX7_hill_0 : decode cX7_hill 0 = .ok (.iload_n 1, 1) := by decide +kernel
theorem dX7_hill_1 : decode cX7_hill 1 = .ok (.invokestatic 86, 3) := by decide +kernel
theorem dX7_hill_4 : decode cX7_hill 4 = .ok (.ifCond .eq 21, 3) := by decide +kernel
theorem dX7_hill_7 : decode cX7_hill 7 = .ok (.iload_n 2, 1) := by decide +kernel
theorem dX7_hill_8 : decode cX7_hill 8 = .ok (.invokestatic 86, 3) := by decide +kernel
theorem dX7_hill_11 : decode cX7_hill 11 = .ok (.ifCond .eq 14, 3) := by decide +kernel
theorem dX7_hill_14 : decode cX7_hill 14 = .ok (.iload_n 3, 1) := by decide +kernel
theorem dX7_hill_15 : decode cX7_hill 15 = .ok (.iconst 1, 1) := by decide +kernel
theorem dX7_hill_16 : decode cX7_hill 16 = .ok (.if_icmp .lt 9, 3) := by decide +kernel
theorem dX7_hill_19 : decode cX7_hill 19 = .ok (.iload_n 3, 1) := by decide +kernel
theorem dX7_hill_20 : decode cX7_hill 20 = .ok (.bipush 60, 2) := by decide +kernel
theorem dX7_hill_22 : decode cX7_hill 22 = .ok (.if_icmp .le 5, 3) := by decide +kernel
theorem dX7_hill_25 : decode cX7_hill 25 = .ok (.iconst (-1), 1) := by decide +kernel
theorem dX7_hill_26 : decode cX7_hill 26 = .ok (.ireturn, 1) := by decide +kernel
theorem dX7_hill_27 : decode cX7_hill 27 = .ok (.aload_n 0, 1) := by decide +kernel
theorem dX7_hill_28 : decode cX7_hill 28 = .ok (.getfield 12, 3) := by decide +kernel
theorem dX7_hill_31 : decode cX7_hill 31 = .ok (.iload_n 1, 1) := by decide +kernel
theorem dX7_hill_32 : decode cX7_hill 32 = .ok (.iload_n 2, 1) := by decide +kernel
theorem dX7_hill_33 : decode cX7_hill 33 = .ok (.iload_n 3, 1) := by decide +kernel
theorem dX7_hill_34 : decode cX7_hill 34 = .ok (.invokevirtual 90, 3) := by decide +kernel
theorem dX7_hill_37 : decode cX7_hill 37 = .ok (.istore 4, 2) := by decide +kernel
theorem dX7_hill_39 : decode cX7_hill 39 = .ok (.iload 4, 2) := by decide +kernel
theorem dX7_hill_41 : decode cX7_hill 41 = .ok (.iconst (-1), 1) := by decide +kernel
theorem dX7_hill_42 : decode cX7_hill 42 = .ok (.if_icmp .eq 13, 3) := by decide +kernel
theorem dX7_hill_45 : decode cX7_hill 45 = .ok (.aload_n 0, 1) := by decide +kernel
theorem dX7_hill_46 : decode cX7_hill 46 = .ok (.dup, 1) := by decide +kernel
theorem dX7_hill_47 : decode cX7_hill 47 = .ok (.getfield 48, 3) := by decide +kernel
theorem dX7_hill_50 : decode cX7_hill 50 = .ok (.iconst 1, 1) := by decide +kernel
theorem dX7_hill_51 : decode cX7_hill 51 = .ok (.iadd, 1) := by decide +kernel
theorem dX7_hill_52 : decode cX7_hill 52 = .ok (.putfield 48, 3) := by decide +kernel
theorem dX7_hill_55 : decode cX7_hill 55 = .ok (.iload 4, 2) := by decide +kernel
theorem dX7_hill_57 : decode cX7_hill 57 = .ok (.ireturn, 1) := by decide +kernel
set_option maxHeartbeats 4000000 in
set_option maxRecDepth 100000 in
theorem t_X7_hill {l : Launch} {g : zG} {d : Nat} {s : zS} (hR : zRok s) {p0 : Int32} {p1 : Int32} {p2 : Int32} {K : Int32 → zS → Prop} (h : (zc l g d M_X7_isPlace [.int p0] s (zKz (fun b2 s1 => s1.2.2.1 = s.2.2.1 ∧ (if b2 = true then (zc l g d M_X7_isPlace [.int p1] s1 (zKz (fun b4 s3 => s3.2.2.1 = s1.2.2.1 ∧ (if b4 = true then (if p2 < (1 : Int32) then K (-1 : Int32) s3 else (if p2 ≤ (60 : Int32) then (zc l g d M_X1_raise [.ref 65, .int p0, .int p1, .int p2] s3 (zKi (fun r6 s5 => s5.2.2.1 = s3.2.2.1 ∧ (if r6 = (-1 : Int32) then K r6 s5 else K r6 (zI s5 64 10 ((s5.1 64 10) + (1 : Int32))))))) else K (-1 : Int32) s3)) else K (-1 : Int32) s3)))) else K (-1 : Int32) s1))))) : zc l g (d + 1) M_X7_hill [.ref 64, .int p0, .int p1, .int p2] s (zKi K) := by
  refine zCall_of k_X7_hill (Nat.le_of_ble_eq_true rfl) (Nat.le_refl _) (fun _ => ?_)
  show zt l g (d + 1) M_X7_hill 0 [.ref 64, .int p0, .int p1, .int p2, zJ] [] s (zKi K)
  refine z_iload_n (i := 1) dX7_hill_0 rfl rfl rfl ?_
  refine z_callS (as := [.int p0]) k_X7_isPlace m_X7_86 rfl h rfl (Nat.le_of_ble_eq_true rfl) dX7_hill_1 zy200 rfl ?_
  rintro v s1 ⟨b2, rfl, hRs1, h⟩
  show zt l g (d + 1) M_X7_hill 4 [.ref 64, .int p0, .int p1, .int p2, zJ] [.int (zb b2)] s1 _
  refine z_ifb_eq (pt := 25) dX7_hill_4 (by decide) rfl (fun c => ?_) (fun c => ?_)
  · have h := zif h (by rw [c]; exact Bool.false_ne_true)
    refine z_iconst (v := (-1 : Int32)) dX7_hill_25 (by decide) rfl ?_
    exact z_ret (some (.int (-1 : Int32))) (Or.inr (Or.inl ⟨_, _, rfl, rfl, rfl, dX7_hill_26⟩)) zN200 ⟨_, rfl, h⟩
  · have h := zit h c
    refine z_iload_n (i := 2) dX7_hill_7 rfl rfl rfl ?_
    refine z_callS (as := [.int p1]) k_X7_isPlace m_X7_86 rfl h rfl (Nat.le_of_ble_eq_true rfl) dX7_hill_8 zy200 rfl ?_
    rintro v s3 ⟨b4, rfl, hRs3, h⟩
    show zt l g (d + 1) M_X7_hill 11 [.ref 64, .int p0, .int p1, .int p2, zJ] [.int (zb b4)] s3 _
    refine z_ifb_eq (pt := 25) dX7_hill_11 (by decide) rfl (fun c => ?_) (fun c => ?_)
    · have h := zif h (by rw [c]; exact Bool.false_ne_true)
      refine z_iconst (v := (-1 : Int32)) dX7_hill_25 (by decide) rfl ?_
      exact z_ret (some (.int (-1 : Int32))) (Or.inr (Or.inl ⟨_, _, rfl, rfl, rfl, dX7_hill_26⟩)) zN200 ⟨_, rfl, h⟩
    · have h := zit h c
      refine z_iload_n (i := 3) dX7_hill_14 rfl rfl rfl ?_
      refine z_iconst (v := (1 : Int32)) dX7_hill_15 (by decide) rfl ?_
      refine z_icmp_lt (pt := 25) dX7_hill_16 (by decide) rfl (fun c => ?_) (fun c => ?_)
      · have h := zit h c
        refine z_iconst (v := (-1 : Int32)) dX7_hill_25 (by decide) rfl ?_
        exact z_ret (some (.int (-1 : Int32))) (Or.inr (Or.inl ⟨_, _, rfl, rfl, rfl, dX7_hill_26⟩)) zN200 ⟨_, rfl, h⟩
      · have h := zif h c
        refine z_iload_n (i := 3) dX7_hill_19 rfl rfl rfl ?_
        refine z_bipush (v := (60 : Int32)) dX7_hill_20 (by decide) rfl ?_
        refine z_icmp_le (pt := 27) dX7_hill_22 (by decide) rfl (fun c => ?_) (fun c => ?_)
        · have h := zit h c
          refine z_aload_n (i := 0) dX7_hill_27 rfl rfl rfl ?_
          refine z_getR (q := 65) f_X7_12 i_64 rfl (r_64_0 (zRok_of hRs3 (zRok_of hRs1 hR))) (by decide) dX7_hill_28 rfl ?_
          refine z_iload_n (i := 1) dX7_hill_31 rfl rfl rfl ?_
          refine z_iload_n (i := 2) dX7_hill_32 rfl rfl rfl ?_
          refine z_iload_n (i := 3) dX7_hill_33 rfl rfl rfl ?_
          refine z_callV k_X1_raise m_X7_90 (zRec_of i_65) rfl h rfl (Nat.le_of_ble_eq_true rfl) dX7_hill_34 zy200 rfl ?_
          rintro v s5 ⟨r6, rfl, hRs5, h⟩
          show zt l g (d + 1) M_X7_hill 37 [.ref 64, .int p0, .int p1, .int p2, zJ] [.int r6] s5 _
          refine z_istore dX7_hill_37 (by decide) (zokd rfl) rfl ?_
          show zt l g (d + 1) M_X7_hill 39 [.ref 64, .int p0, .int p1, .int p2, .int r6] [] s5 _
          refine z_iload dX7_hill_39 rfl rfl ?_
          refine z_iconst (v := (-1 : Int32)) dX7_hill_41 (by decide) rfl ?_
          refine z_icmp_eq (pt := 55) dX7_hill_42 (by decide) rfl (fun c => ?_) (fun c => ?_)
          · have h := zit h c
            refine z_iload dX7_hill_55 rfl rfl ?_
            exact z_ret (some (.int r6)) (Or.inr (Or.inl ⟨_, _, rfl, rfl, rfl, dX7_hill_57⟩)) zN200 ⟨_, rfl, h⟩
          · have h := zif h c
            refine z_aload_n (i := 0) dX7_hill_45 rfl rfl rfl ?_
            refine z_dup dX7_hill_46 rfl rfl ?_
            refine z_getI (x := s5.1 64 10) rfl f_X7_48 i_64 rfl dX7_hill_47 rfl ?_
            refine z_iconst (v := (1 : Int32)) dX7_hill_50 (by decide) rfl ?_
            refine z_iadd dX7_hill_51 rfl ?_
            refine z_putI f_X7_48 i_64 rfl (Or.inl rfl) rfl rfl dX7_hill_52 rfl ?_
            refine z_iload dX7_hill_55 rfl rfl ?_
            exact z_ret (some (.int r6)) (Or.inr (Or.inl ⟨_, _, rfl, rfl, rfl, dX7_hill_57⟩)) zN200 ⟨_, rfl, h⟩
        · have h := zif h c
          refine z_iconst (v := (-1 : Int32)) dX7_hill_25 (by decide) rfl ?_
          exact z_ret (some (.int (-1 : Int32))) (Or.inr (Or.inl ⟨_, _, rfl, rfl, rfl, dX7_hill_26⟩)) zN200 ⟨_, rfl, h⟩
theorem dX7_seer_0 : decode cX7_seer 0 = .ok (.iload_n 1, 1) := by decide +kernel
theorem dX7_seer_1 : decode cX7_seer 1 = .ok (.invokestatic 86, 3) := by decide +kernel
theorem dX7_seer_4 : decode cX7_seer 4 = .ok (.ifCond .eq 12, 3) := by decide +kernel
theorem dX7_seer_7 : decode cX7_seer 7 = .ok (.aload_n 0, 1) := by decide +kernel
theorem dX7_seer_8 : decode cX7_seer 8 = .ok (.getfield 94, 3) := by decide +kernel
theorem dX7_seer_11 : decode cX7_seer 11 = .ok (.bipush 20, 2) := by decide +kernel
theorem dX7_seer_13 : decode cX7_seer 13 = .ok (.if_icmp .lt 5, 3) := by decide +kernel
theorem dX7_seer_16 : decode cX7_seer 16 = .ok (.iconst (-1), 1) := by decide +kernel
theorem dX7_seer_17 : decode cX7_seer 17 = .ok (.ireturn, 1) := by decide +kernel
theorem dX7_seer_18 : decode cX7_seer 18 = .ok (.aload_n 0, 1) := by decide +kernel
theorem dX7_seer_19 : decode cX7_seer 19 = .ok (.getfield 25, 3) := by decide +kernel
theorem dX7_seer_22 : decode cX7_seer 22 = .ok (.aload_n 0, 1) := by decide +kernel
theorem dX7_seer_23 : decode cX7_seer 23 = .ok (.getfield 94, 3) := by decide +kernel
theorem dX7_seer_26 : decode cX7_seer 26 = .ok (.iload_n 1, 1) := by decide +kernel
theorem dX7_seer_27 : decode cX7_seer 27 = .ok (.iastore, 1) := by decide +kernel
theorem dX7_seer_28 : decode cX7_seer 28 = .ok (.aload_n 0, 1) := by decide +kernel
theorem dX7_seer_29 : decode cX7_seer 29 = .ok (.dup, 1) := by decide +kernel
theorem dX7_seer_30 : decode cX7_seer 30 = .ok (.getfield 94, 3) := by decide +kernel
theorem dX7_seer_33 : decode cX7_seer 33 = .ok (.dup_x1, 1) := by decide +kernel
theorem dX7_seer_34 : decode cX7_seer 34 = .ok (.iconst 1, 1) := by decide +kernel
theorem dX7_seer_35 : decode cX7_seer 35 = .ok (.iadd, 1) := by decide +kernel
theorem dX7_seer_36 : decode cX7_seer 36 = .ok (.putfield 94, 3) := by decide +kernel
theorem dX7_seer_39 : decode cX7_seer 39 = .ok (.ireturn, 1) := by decide +kernel
set_option maxHeartbeats 4000000 in
set_option maxRecDepth 100000 in
theorem t_X7_seer {l : Launch} {g : zG} {d : Nat} {s : zS} (hR : zRok s) {p0 : Int32} {K : Int32 → zS → Prop} (h : (zc l g d M_X7_isPlace [.int p0] s (zKz (fun b2 s1 => s1.2.2.1 = s.2.2.1 ∧ (if b2 = true then (if (s1.1 64 3) < (20 : Int32) then (vp_in (s1.1 64 3) 20 ∧ K (s1.1 64 3) (zI (zI s1 69 ((s1.1 64 3).toNatClampNeg) p0) 64 3 ((s1.1 64 3) + (1 : Int32)))) else K (-1 : Int32) s1) else K (-1 : Int32) s1))))) : zc l g (d + 1) M_X7_seer [.ref 64, .int p0] s (zKi K) := by
  refine zCall_of k_X7_seer (Nat.le_of_ble_eq_true rfl) (Nat.le_refl _) (fun _ => ?_)
  show zt l g (d + 1) M_X7_seer 0 [.ref 64, .int p0] [] s (zKi K)
  refine z_iload_n (i := 1) dX7_seer_0 rfl rfl rfl ?_
  refine z_callS (as := [.int p0]) k_X7_isPlace m_X7_86 rfl h rfl (Nat.le_of_ble_eq_true rfl) dX7_seer_1 zy200 rfl ?_
  rintro v s1 ⟨b2, rfl, hRs1, h⟩
  show zt l g (d + 1) M_X7_seer 4 [.ref 64, .int p0] [.int (zb b2)] s1 _
  refine z_ifb_eq (pt := 16) dX7_seer_4 (by decide) rfl (fun c => ?_) (fun c => ?_)
  · have h := zif h (by rw [c]; exact Bool.false_ne_true)
    refine z_iconst (v := (-1 : Int32)) dX7_seer_16 (by decide) rfl ?_
    exact z_ret (some (.int (-1 : Int32))) (Or.inr (Or.inl ⟨_, _, rfl, rfl, rfl, dX7_seer_17⟩)) zN200 ⟨_, rfl, h⟩
  · have h := zit h c
    refine z_aload_n (i := 0) dX7_seer_7 rfl rfl rfl ?_
    refine z_getI (x := s1.1 64 3) rfl f_X7_94 i_64 rfl dX7_seer_8 rfl ?_
    refine z_bipush (v := (20 : Int32)) dX7_seer_11 (by decide) rfl ?_
    refine z_icmp_lt (pt := 18) dX7_seer_13 (by decide) rfl (fun c => ?_) (fun c => ?_)
    · have h := zit h c
      refine z_aload_n (i := 0) dX7_seer_18 rfl rfl rfl ?_
      refine z_getR (q := 69) f_X7_25 i_64 rfl (r_64_2 (zRok_of hRs1 hR)) (by decide) dX7_seer_19 rfl ?_
      refine z_aload_n (i := 0) dX7_seer_22 rfl rfl rfl ?_
      refine z_getI (x := s1.1 64 3) rfl f_X7_94 i_64 rfl dX7_seer_23 rfl ?_
      refine z_iload_n (i := 1) dX7_seer_26 rfl rfl rfl ?_
      obtain ⟨a3, h⟩ := h
      have wa3 := vin a3
      refine z_iast a_69 a3 dX7_seer_27 rfl ?_
      show zt l g (d + 1) M_X7_seer 28 [.ref 64, .int p0] [] (zI s1 69 ((s1.1 64 3).toNatClampNeg) p0) _
      refine z_aload_n (i := 0) dX7_seer_28 rfl rfl rfl ?_
      refine z_dup dX7_seer_29 rfl rfl ?_
      refine z_getI (x := s1.1 64 3) (zI_o (by decide)) f_X7_94 i_64 rfl dX7_seer_30 rfl ?_
      refine z_dup_x1 dX7_seer_33 rfl rfl rfl ?_
      refine z_iconst (v := (1 : Int32)) dX7_seer_34 (by decide) rfl ?_
      refine z_iadd dX7_seer_35 rfl ?_
      refine z_putI f_X7_94 i_64 rfl (Or.inl rfl) rfl rfl dX7_seer_36 rfl ?_
      exact z_ret (some (.int (s1.1 64 3))) (Or.inr (Or.inl ⟨_, _, rfl, rfl, rfl, dX7_seer_39⟩)) zN200 ⟨_, rfl, h⟩
    · have h := zif h c
      refine z_iconst (v := (-1 : Int32)) dX7_seer_16 (by decide) rfl ?_
      exact z_ret (some (.int (-1 : Int32))) (Or.inr (Or.inl ⟨_, _, rfl, rfl, rfl, dX7_seer_17⟩)) zN200 ⟨_, rfl, h⟩
theorem dX7_star_0 : decode cX7_star 0 = .ok (.iload_n 1, 1) := by decide +kernel
theorem dX7_star_1 : decode cX7_star 1 = .ok (.invokestatic 97, 3) := by decide +kernel
theorem dX7_star_4 : decode cX7_star 4 = .ok (.ifCond .eq 31, 3) := by decide +kernel
theorem dX7_star_7 : decode cX7_star 7 = .ok (.iload_n 2, 1) := by decide +kernel
theorem dX7_star_8 : decode cX7_star 8 = .ok (.invokestatic 100, 3) := by decide +kernel
theorem dX7_star_11 : decode cX7_star 11 = .ok (.ifCond .eq 24, 3) := by decide +kernel
theorem dX7_star_14 : decode cX7_star 14 = .ok (.iload_n 3, 1) := by decide +kernel
theorem dX7_star_15 : decode cX7_star 15 = .ok (.bipush (-9), 2) := by decide +kernel
theorem dX7_star_17 : decode cX7_star 17 = .ok (.if_icmp .lt 18, 3) := by decide +kernel
theorem dX7_star_20 : decode cX7_star 20 = .ok (.iload_n 3, 1) := by decide +kernel
theorem dX7_star_21 : decode cX7_star 21 = .ok (.bipush 9, 2) := by decide +kernel
theorem dX7_star_23 : decode cX7_star 23 = .ok (.if_icmp .gt 12, 3) := by decide +kernel
theorem dX7_star_26 : decode cX7_star 26 = .ok (.aload_n 0, 1) := by decide +kernel
theorem dX7_star_27 : decode cX7_star 27 = .ok (.getfield 103, 3) := by decide +kernel
theorem dX7_star_30 : decode cX7_star 30 = .ok (.bipush 12, 2) := by decide +kernel
theorem dX7_star_32 : decode cX7_star 32 = .ok (.if_icmp .lt 5, 3) := by decide +kernel
theorem dX7_star_35 : decode cX7_star 35 = .ok (.iconst (-1), 1) := by decide +kernel
theorem dX7_star_36 : decode cX7_star 36 = .ok (.ireturn, 1) := by decide +kernel
theorem dX7_star_37 : decode cX7_star 37 = .ok (.aload_n 0, 1) := by decide +kernel
theorem dX7_star_38 : decode cX7_star 38 = .ok (.iconst 0, 1) := by decide +kernel
theorem dX7_star_39 : decode cX7_star 39 = .ok (.sipush 239, 3) := by decide +kernel
theorem dX7_star_42 : decode cX7_star 42 = .ok (.iconst 0, 1) := by decide +kernel
theorem dX7_star_43 : decode cX7_star 43 = .ok (.iconst 0, 1) := by decide +kernel
theorem dX7_star_44 : decode cX7_star 44 = .ok (.invokevirtual 106, 3) := by decide +kernel
theorem dX7_star_47 : decode cX7_star 47 = .ok (.astore 4, 2) := by decide +kernel
theorem dX7_star_49 : decode cX7_star 49 = .ok (.aload 4, 2) := by decide +kernel
theorem dX7_star_51 : decode cX7_star 51 = .ok (.iload_n 1, 1) := by decide +kernel
theorem dX7_star_52 : decode cX7_star 52 = .ok (.putfield 110, 3) := by decide +kernel
theorem dX7_star_55 : decode cX7_star 55 = .ok (.aload 4, 2) := by decide +kernel
theorem dX7_star_57 : decode cX7_star 57 = .ok (.iload_n 2, 1) := by decide +kernel
theorem dX7_star_58 : decode cX7_star 58 = .ok (.putfield 113, 3) := by decide +kernel
theorem dX7_star_61 : decode cX7_star 61 = .ok (.aload 4, 2) := by decide +kernel
theorem dX7_star_63 : decode cX7_star 63 = .ok (.iload_n 3, 1) := by decide +kernel
theorem dX7_star_64 : decode cX7_star 64 = .ok (.putfield 116, 3) := by decide +kernel
theorem dX7_star_67 : decode cX7_star 67 = .ok (.aload_n 0, 1) := by decide +kernel
theorem dX7_star_68 : decode cX7_star 68 = .ok (.getfield 103, 3) := by decide +kernel
theorem dX7_star_71 : decode cX7_star 71 = .ok (.iconst 1, 1) := by decide +kernel
theorem dX7_star_72 : decode cX7_star 72 = .ok (.isub, 1) := by decide +kernel
theorem dX7_star_73 : decode cX7_star 73 = .ok (.ireturn, 1) := by decide +kernel
set_option maxHeartbeats 4000000 in
set_option maxRecDepth 100000 in
theorem t_X7_star {l : Launch} {g : zG} {d : Nat} {s : zS} (hR : zRok s) {p0 : Int32} {p1 : Int32} {p2 : Int32} {K : Int32 → zS → Prop} (h : (zc l g d M_X7_isWay [.int p0] s (zKz (fun b2 s1 => s1.2.2.1 = s.2.2.1 ∧ (if b2 = true then (zc l g d M_X7_isToldSlope [.int p1] s1 (zKz (fun b4 s3 => s3.2.2.1 = s1.2.2.1 ∧ (if b4 = true then (if p2 < (-9 : Int32) then K (-1 : Int32) s3 else (if (9 : Int32) < p2 then K (-1 : Int32) s3 else (if (s3.1 64 5) < (12 : Int32) then (zc l g d M_X7_newThing [.ref 64, .int (0 : Int32), .int (239 : Int32), .int (0 : Int32), .int (0 : Int32)] s3 (zKr (fun o6 s5 => s5.2.2.1 = s3.2.2.1 ∧ (92 ≤ o6 ∧ o6 < 104) ∧ K ((s5.1 64 5) - (1 : Int32)) (zI (zI (zI s5 o6 12 p0) o6 13 p1) o6 14 p2)))) else K (-1 : Int32) s3))) else K (-1 : Int32) s3)))) else K (-1 : Int32) s1))))) : zc l g (d + 1) M_X7_star [.ref 64, .int p0, .int p1, .int p2] s (zKi K) := by
  refine zCall_of k_X7_star (Nat.le_of_ble_eq_true rfl) (Nat.le_refl _) (fun _ => ?_)
  show zt l g (d + 1) M_X7_star 0 [.ref 64, .int p0, .int p1, .int p2, zJ] [] s (zKi K)
  refine z_iload_n (i := 1) dX7_star_0 rfl rfl rfl ?_
  refine z_callS (as := [.int p0]) k_X7_isWay m_X7_97 rfl h rfl (Nat.le_of_ble_eq_true rfl) dX7_star_1 zy200 rfl ?_
  rintro v s1 ⟨b2, rfl, hRs1, h⟩
  show zt l g (d + 1) M_X7_star 4 [.ref 64, .int p0, .int p1, .int p2, zJ] [.int (zb b2)] s1 _
  refine z_ifb_eq (pt := 35) dX7_star_4 (by decide) rfl (fun c => ?_) (fun c => ?_)
  · have h := zif h (by rw [c]; exact Bool.false_ne_true)
    refine z_iconst (v := (-1 : Int32)) dX7_star_35 (by decide) rfl ?_
    exact z_ret (some (.int (-1 : Int32))) (Or.inr (Or.inl ⟨_, _, rfl, rfl, rfl, dX7_star_36⟩)) zN200 ⟨_, rfl, h⟩
  · have h := zit h c
    refine z_iload_n (i := 2) dX7_star_7 rfl rfl rfl ?_
    refine z_callS (as := [.int p1]) k_X7_isToldSlope m_X7_100 rfl h rfl (Nat.le_of_ble_eq_true rfl) dX7_star_8 zy200 rfl ?_
    rintro v s3 ⟨b4, rfl, hRs3, h⟩
    show zt l g (d + 1) M_X7_star 11 [.ref 64, .int p0, .int p1, .int p2, zJ] [.int (zb b4)] s3 _
    refine z_ifb_eq (pt := 35) dX7_star_11 (by decide) rfl (fun c => ?_) (fun c => ?_)
    · have h := zif h (by rw [c]; exact Bool.false_ne_true)
      refine z_iconst (v := (-1 : Int32)) dX7_star_35 (by decide) rfl ?_
      exact z_ret (some (.int (-1 : Int32))) (Or.inr (Or.inl ⟨_, _, rfl, rfl, rfl, dX7_star_36⟩)) zN200 ⟨_, rfl, h⟩
    · have h := zit h c
      refine z_iload_n (i := 3) dX7_star_14 rfl rfl rfl ?_
      refine z_bipush (v := (-9 : Int32)) dX7_star_15 (by decide) rfl ?_
      refine z_icmp_lt (pt := 35) dX7_star_17 (by decide) rfl (fun c => ?_) (fun c => ?_)
      · have h := zit h c
        refine z_iconst (v := (-1 : Int32)) dX7_star_35 (by decide) rfl ?_
        exact z_ret (some (.int (-1 : Int32))) (Or.inr (Or.inl ⟨_, _, rfl, rfl, rfl, dX7_star_36⟩)) zN200 ⟨_, rfl, h⟩
      · have h := zif h c
        refine z_iload_n (i := 3) dX7_star_20 rfl rfl rfl ?_
        refine z_bipush (v := (9 : Int32)) dX7_star_21 (by decide) rfl ?_
        refine z_icmp_gt (pt := 35) dX7_star_23 (by decide) rfl (fun c => ?_) (fun c => ?_)
        · have h := zit h c
          refine z_iconst (v := (-1 : Int32)) dX7_star_35 (by decide) rfl ?_
          exact z_ret (some (.int (-1 : Int32))) (Or.inr (Or.inl ⟨_, _, rfl, rfl, rfl, dX7_star_36⟩)) zN200 ⟨_, rfl, h⟩
        · have h := zif h c
          refine z_aload_n (i := 0) dX7_star_26 rfl rfl rfl ?_
          refine z_getI (x := s3.1 64 5) rfl f_X7_103 i_64 rfl dX7_star_27 rfl ?_
          refine z_bipush (v := (12 : Int32)) dX7_star_30 (by decide) rfl ?_
          refine z_icmp_lt (pt := 37) dX7_star_32 (by decide) rfl (fun c => ?_) (fun c => ?_)
          · have h := zit h c
            refine z_aload_n (i := 0) dX7_star_37 rfl rfl rfl ?_
            refine z_iconst (v := (0 : Int32)) dX7_star_38 (by decide) rfl ?_
            refine z_sipush (v := (239 : Int32)) dX7_star_39 (by decide) rfl ?_
            refine z_iconst (v := (0 : Int32)) dX7_star_42 (by decide) rfl ?_
            refine z_iconst (v := (0 : Int32)) dX7_star_43 (by decide) rfl ?_
            refine z_callV k_X7_newThing m_X7_106 (zRec_of i_64) rfl h rfl (Nat.le_of_ble_eq_true rfl) dX7_star_44 zy200 rfl ?_
            rintro v s5 ⟨o6, rfl, hRs5, hpo6, h⟩
            show zt l g (d + 1) M_X7_star 47 [.ref 64, .int p0, .int p1, .int p2, zJ] [.ref o6] s5 _
            refine z_astore dX7_star_47 (by decide) (zokd rfl) rfl ?_
            show zt l g (d + 1) M_X7_star 49 [.ref 64, .int p0, .int p1, .int p2, .ref o6] [] s5 _
            refine z_aload dX7_star_49 rfl rfl ?_
            refine z_iload_n (i := 1) dX7_star_51 rfl rfl rfl ?_
            refine z_putI f_X7_110 (i_Th hpo6) rfl (Or.inl rfl) rfl rfl dX7_star_52 rfl ?_
            refine z_aload dX7_star_55 rfl rfl ?_
            refine z_iload_n (i := 2) dX7_star_57 rfl rfl rfl ?_
            refine z_putI f_X7_113 (i_Th hpo6) rfl (Or.inl rfl) rfl rfl dX7_star_58 rfl ?_
            refine z_aload dX7_star_61 rfl rfl ?_
            refine z_iload_n (i := 3) dX7_star_63 rfl rfl rfl ?_
            refine z_putI f_X7_116 (i_Th hpo6) rfl (Or.inl rfl) rfl rfl dX7_star_64 rfl ?_
            refine z_aload_n (i := 0) dX7_star_67 rfl rfl rfl ?_
            refine z_getI (x := s5.1 64 5) ((zI_k (by decide)).trans ((zI_k (by decide)).trans (zI_k (by decide)))) f_X7_103 i_64 rfl dX7_star_68 rfl ?_
            refine z_iconst (v := (1 : Int32)) dX7_star_71 (by decide) rfl ?_
            refine z_isub dX7_star_72 rfl ?_
            exact z_ret (some (.int ((s5.1 64 5) - (1 : Int32)))) (Or.inr (Or.inl ⟨_, _, rfl, rfl, rfl, dX7_star_73⟩)) zN200 ⟨_, rfl, h⟩
          · have h := zif h c
            refine z_iconst (v := (-1 : Int32)) dX7_star_35 (by decide) rfl ?_
            exact z_ret (some (.int (-1 : Int32))) (Or.inr (Or.inl ⟨_, _, rfl, rfl, rfl, dX7_star_36⟩)) zN200 ⟨_, rfl, h⟩
theorem dX7_flies_0 : decode cX7_flies 0 = .ok (.iload_n 1, 1) := by decide +kernel
theorem dX7_flies_1 : decode cX7_flies 1 = .ok (.invokestatic 119, 3) := by decide +kernel
theorem dX7_flies_4 : decode cX7_flies 4 = .ok (.istore 6, 2) := by decide +kernel
theorem dX7_flies_6 : decode cX7_flies 6 = .ok (.iload 6, 2) := by decide +kernel
theorem dX7_flies_8 : decode cX7_flies 8 = .ok (.ifCond .eq 42, 3) := by decide +kernel
theorem dX7_flies_11 : decode cX7_flies 11 = .ok (.iload_n 2, 1) := by decide +kernel
theorem dX7_flies_12 : decode cX7_flies 12 = .ok (.invokestatic 123, 3) := by decide +kernel
theorem dX7_flies_15 : decode cX7_flies 15 = .ok (.ifCond .eq 35, 3) := by decide +kernel
theorem dX7_flies_18 : decode cX7_flies 18 = .ok (.iload_n 3, 1) := by decide +kernel
theorem dX7_flies_19 : decode cX7_flies 19 = .ok (.invokestatic 86, 3) := by decide +kernel
theorem dX7_flies_22 : decode cX7_flies 22 = .ok (.ifCond .eq 28, 3) := by decide +kernel
theorem dX7_flies_25 : decode cX7_flies 25 = .ok (.iload 4, 2) := by decide +kernel
theorem dX7_flies_27 : decode cX7_flies 27 = .ok (.invokestatic 126, 3) := by decide +kernel
theorem dX7_flies_30 : decode cX7_flies 30 = .ok (.ifCond .eq 20, 3) := by decide +kernel
theorem dX7_flies_33 : decode cX7_flies 33 = .ok (.iload 5, 2) := by decide +kernel
theorem dX7_flies_35 : decode cX7_flies 35 = .ok (.invokestatic 129, 3) := by decide +kernel
theorem dX7_flies_38 : decode cX7_flies 38 = .ok (.ifCond .eq 12, 3) := by decide +kernel
theorem dX7_flies_41 : decode cX7_flies 41 = .ok (.aload_n 0, 1) := by decide +kernel
theorem dX7_flies_42 : decode cX7_flies 42 = .ok (.getfield 103, 3) := by decide +kernel
theorem dX7_flies_45 : decode cX7_flies 45 = .ok (.bipush 12, 2) := by decide +kernel
theorem dX7_flies_47 : decode cX7_flies 47 = .ok (.if_icmp .lt 5, 3) := by decide +kernel
theorem dX7_flies_50 : decode cX7_flies 50 = .ok (.iconst (-1), 1) := by decide +kernel
theorem dX7_flies_51 : decode cX7_flies 51 = .ok (.ireturn, 1) := by decide +kernel
theorem dX7_flies_52 : decode cX7_flies 52 = .ok (.aload_n 0, 1) := by decide +kernel
theorem dX7_flies_53 : decode cX7_flies 53 = .ok (.iload_n 1, 1) := by decide +kernel
theorem dX7_flies_54 : decode cX7_flies 54 = .ok (.iload_n 2, 1) := by decide +kernel
theorem dX7_flies_55 : decode cX7_flies 55 = .ok (.iload_n 3, 1) := by decide +kernel
theorem dX7_flies_56 : decode cX7_flies 56 = .ok (.iload 4, 2) := by decide +kernel
theorem dX7_flies_58 : decode cX7_flies 58 = .ok (.invokevirtual 106, 3) := by decide +kernel
theorem dX7_flies_61 : decode cX7_flies 61 = .ok (.astore 7, 2) := by decide +kernel
theorem dX7_flies_63 : decode cX7_flies 63 = .ok (.aload 7, 2) := by decide +kernel
theorem dX7_flies_65 : decode cX7_flies 65 = .ok (.iload 5, 2) := by decide +kernel
theorem dX7_flies_67 : decode cX7_flies 67 = .ok (.bipush 100, 2) := by decide +kernel
theorem dX7_flies_69 : decode cX7_flies 69 = .ok (.idiv, 1) := by decide +kernel
theorem dX7_flies_70 : decode cX7_flies 70 = .ok (.bipush 20, 2) := by decide +kernel
theorem dX7_flies_72 : decode cX7_flies 72 = .ok (.isub, 1) := by decide +kernel
theorem dX7_flies_73 : decode cX7_flies 73 = .ok (.putfield 132, 3) := by decide +kernel
theorem dX7_flies_76 : decode cX7_flies 76 = .ok (.aload 7, 2) := by decide +kernel
theorem dX7_flies_78 : decode cX7_flies 78 = .ok (.iload 5, 2) := by decide +kernel
theorem dX7_flies_80 : decode cX7_flies 80 = .ok (.bipush 100, 2) := by decide +kernel
theorem dX7_flies_82 : decode cX7_flies 82 = .ok (.irem, 1) := by decide +kernel
theorem dX7_flies_83 : decode cX7_flies 83 = .ok (.bipush 20, 2) := by decide +kernel
theorem dX7_flies_85 : decode cX7_flies 85 = .ok (.isub, 1) := by decide +kernel
theorem dX7_flies_86 : decode cX7_flies 86 = .ok (.putfield 135, 3) := by decide +kernel
theorem dX7_flies_89 : decode cX7_flies 89 = .ok (.aload 7, 2) := by decide +kernel
theorem dX7_flies_91 : decode cX7_flies 91 = .ok (.iload 6, 2) := by decide +kernel
theorem dX7_flies_93 : decode cX7_flies 93 = .ok (.putfield 138, 3) := by decide +kernel
theorem dX7_flies_96 : decode cX7_flies 96 = .ok (.aload_n 0, 1) := by decide +kernel
theorem dX7_flies_97 : decode cX7_flies 97 = .ok (.getfield 103, 3) := by decide +kernel
theorem dX7_flies_100 : decode cX7_flies 100 = .ok (.iconst 1, 1) := by decide +kernel
theorem dX7_flies_101 : decode cX7_flies 101 = .ok (.isub, 1) := by decide +kernel
theorem dX7_flies_102 : decode cX7_flies 102 = .ok (.ireturn, 1) := by decide +kernel
set_option maxHeartbeats 4000000 in
set_option maxRecDepth 100000 in
theorem t_X7_flies {l : Launch} {g : zG} {d : Nat} {s : zS} (hR : zRok s) {p0 : Int32} {p1 : Int32} {p2 : Int32} {p3 : Int32} {p4 : Int32} {K : Int32 → zS → Prop} (h : (zc l g d M_X7_divisorOf [.int p0] s (zKi (fun r2 s1 => s1.2.2.1 = s.2.2.1 ∧ (if r2 = 0 then K (-1 : Int32) s1 else (zc l g d M_X7_isSpan [.int p1] s1 (zKz (fun b4 s3 => s3.2.2.1 = s1.2.2.1 ∧ (if b4 = true then (zc l g d M_X7_isPlace [.int p2] s3 (zKz (fun b6 s5 => s5.2.2.1 = s3.2.2.1 ∧ (if b6 = true then (zc l g d M_X7_isHeight [.int p3] s5 (zKz (fun b8 s7 => s7.2.2.1 = s5.2.2.1 ∧ (if b8 = true then (zc l g d M_X7_isSpeed [.int p4] s7 (zKz (fun b10 s9 => s9.2.2.1 = s7.2.2.1 ∧ (if b10 = true then (if (s9.1 64 5) < (12 : Int32) then (zc l g d M_X7_newThing [.ref 64, .int p0, .int p1, .int p2, .int p3] s9 (zKr (fun o12 s11 => s11.2.2.1 = s9.2.2.1 ∧ (92 ≤ o12 ∧ o12 < 104) ∧ K ((s11.1 64 5) - (1 : Int32)) (zI (zI (zI s11 o12 6 ((p4 / (100 : Int32)) - (20 : Int32))) o12 7 ((p4 % (100 : Int32)) - (20 : Int32))) o12 8 r2)))) else K (-1 : Int32) s9) else K (-1 : Int32) s9)))) else K (-1 : Int32) s7)))) else K (-1 : Int32) s5)))) else K (-1 : Int32) s3))))))))) : zc l g (d + 1) M_X7_flies [.ref 64, .int p0, .int p1, .int p2, .int p3, .int p4] s (zKi K) := by
  refine zCall_of k_X7_flies (Nat.le_of_ble_eq_true rfl) (Nat.le_refl _) (fun _ => ?_)
  show zt l g (d + 1) M_X7_flies 0 [.ref 64, .int p0, .int p1, .int p2, .int p3, .int p4, zJ, zJ] [] s (zKi K)
  refine z_iload_n (i := 1) dX7_flies_0 rfl rfl rfl ?_
  refine z_callS (as := [.int p0]) k_X7_divisorOf m_X7_119 rfl h rfl (Nat.le_of_ble_eq_true rfl) dX7_flies_1 zy200 rfl ?_
  rintro v s1 ⟨r2, rfl, hRs1, h⟩
  show zt l g (d + 1) M_X7_flies 4 [.ref 64, .int p0, .int p1, .int p2, .int p3, .int p4, zJ, zJ] [.int r2] s1 _
  refine z_istore dX7_flies_4 (by decide) (zokd rfl) rfl ?_
  show zt l g (d + 1) M_X7_flies 6 [.ref 64, .int p0, .int p1, .int p2, .int p3, .int p4, .int r2, zJ] [] s1 _
  refine z_iload dX7_flies_6 rfl rfl ?_
  refine z_if_eq (pt := 50) dX7_flies_8 (by decide) rfl (fun c => ?_) (fun c => ?_)
  · have h := zit h c
    refine z_iconst (v := (-1 : Int32)) dX7_flies_50 (by decide) rfl ?_
    exact z_ret (some (.int (-1 : Int32))) (Or.inr (Or.inl ⟨_, _, rfl, rfl, rfl, dX7_flies_51⟩)) zN200 ⟨_, rfl, h⟩
  · have h := zif h c
    refine z_iload_n (i := 2) dX7_flies_11 rfl rfl rfl ?_
    refine z_callS (as := [.int p1]) k_X7_isSpan m_X7_123 rfl h rfl (Nat.le_of_ble_eq_true rfl) dX7_flies_12 zy200 rfl ?_
    rintro v s3 ⟨b4, rfl, hRs3, h⟩
    show zt l g (d + 1) M_X7_flies 15 [.ref 64, .int p0, .int p1, .int p2, .int p3, .int p4, .int r2, zJ] [.int (zb b4)] s3 _
    refine z_ifb_eq (pt := 50) dX7_flies_15 (by decide) rfl (fun c => ?_) (fun c => ?_)
    · have h := zif h (by rw [c]; exact Bool.false_ne_true)
      refine z_iconst (v := (-1 : Int32)) dX7_flies_50 (by decide) rfl ?_
      exact z_ret (some (.int (-1 : Int32))) (Or.inr (Or.inl ⟨_, _, rfl, rfl, rfl, dX7_flies_51⟩)) zN200 ⟨_, rfl, h⟩
    · have h := zit h c
      refine z_iload_n (i := 3) dX7_flies_18 rfl rfl rfl ?_
      refine z_callS (as := [.int p2]) k_X7_isPlace m_X7_86 rfl h rfl (Nat.le_of_ble_eq_true rfl) dX7_flies_19 zy200 rfl ?_
      rintro v s5 ⟨b6, rfl, hRs5, h⟩
      show zt l g (d + 1) M_X7_flies 22 [.ref 64, .int p0, .int p1, .int p2, .int p3, .int p4, .int r2, zJ] [.int (zb b6)] s5 _
      refine z_ifb_eq (pt := 50) dX7_flies_22 (by decide) rfl (fun c => ?_) (fun c => ?_)
      · have h := zif h (by rw [c]; exact Bool.false_ne_true)
        refine z_iconst (v := (-1 : Int32)) dX7_flies_50 (by decide) rfl ?_
        exact z_ret (some (.int (-1 : Int32))) (Or.inr (Or.inl ⟨_, _, rfl, rfl, rfl, dX7_flies_51⟩)) zN200 ⟨_, rfl, h⟩
      · have h := zit h c
        refine z_iload dX7_flies_25 rfl rfl ?_
        refine z_callS (as := [.int p3]) k_X7_isHeight m_X7_126 rfl h rfl (Nat.le_of_ble_eq_true rfl) dX7_flies_27 zy200 rfl ?_
        rintro v s7 ⟨b8, rfl, hRs7, h⟩
        show zt l g (d + 1) M_X7_flies 30 [.ref 64, .int p0, .int p1, .int p2, .int p3, .int p4, .int r2, zJ] [.int (zb b8)] s7 _
        refine z_ifb_eq (pt := 50) dX7_flies_30 (by decide) rfl (fun c => ?_) (fun c => ?_)
        · have h := zif h (by rw [c]; exact Bool.false_ne_true)
          refine z_iconst (v := (-1 : Int32)) dX7_flies_50 (by decide) rfl ?_
          exact z_ret (some (.int (-1 : Int32))) (Or.inr (Or.inl ⟨_, _, rfl, rfl, rfl, dX7_flies_51⟩)) zN200 ⟨_, rfl, h⟩
        · have h := zit h c
          refine z_iload dX7_flies_33 rfl rfl ?_
          refine z_callS (as := [.int p4]) k_X7_isSpeed m_X7_129 rfl h rfl (Nat.le_of_ble_eq_true rfl) dX7_flies_35 zy200 rfl ?_
          rintro v s9 ⟨b10, rfl, hRs9, h⟩
          show zt l g (d + 1) M_X7_flies 38 [.ref 64, .int p0, .int p1, .int p2, .int p3, .int p4, .int r2, zJ] [.int (zb b10)] s9 _
          refine z_ifb_eq (pt := 50) dX7_flies_38 (by decide) rfl (fun c => ?_) (fun c => ?_)
          · have h := zif h (by rw [c]; exact Bool.false_ne_true)
            refine z_iconst (v := (-1 : Int32)) dX7_flies_50 (by decide) rfl ?_
            exact z_ret (some (.int (-1 : Int32))) (Or.inr (Or.inl ⟨_, _, rfl, rfl, rfl, dX7_flies_51⟩)) zN200 ⟨_, rfl, h⟩
          · have h := zit h c
            refine z_aload_n (i := 0) dX7_flies_41 rfl rfl rfl ?_
            refine z_getI (x := s9.1 64 5) rfl f_X7_103 i_64 rfl dX7_flies_42 rfl ?_
            refine z_bipush (v := (12 : Int32)) dX7_flies_45 (by decide) rfl ?_
            refine z_icmp_lt (pt := 52) dX7_flies_47 (by decide) rfl (fun c => ?_) (fun c => ?_)
            · have h := zit h c
              refine z_aload_n (i := 0) dX7_flies_52 rfl rfl rfl ?_
              refine z_iload_n (i := 1) dX7_flies_53 rfl rfl rfl ?_
              refine z_iload_n (i := 2) dX7_flies_54 rfl rfl rfl ?_
              refine z_iload_n (i := 3) dX7_flies_55 rfl rfl rfl ?_
              refine z_iload dX7_flies_56 rfl rfl ?_
              refine z_callV k_X7_newThing m_X7_106 (zRec_of i_64) rfl h rfl (Nat.le_of_ble_eq_true rfl) dX7_flies_58 zy200 rfl ?_
              rintro v s11 ⟨o12, rfl, hRs11, hpo12, h⟩
              show zt l g (d + 1) M_X7_flies 61 [.ref 64, .int p0, .int p1, .int p2, .int p3, .int p4, .int r2, zJ] [.ref o12] s11 _
              refine z_astore dX7_flies_61 (by decide) (zokd rfl) rfl ?_
              show zt l g (d + 1) M_X7_flies 63 [.ref 64, .int p0, .int p1, .int p2, .int p3, .int p4, .int r2, .ref o12] [] s11 _
              refine z_aload dX7_flies_63 rfl rfl ?_
              refine z_iload dX7_flies_65 rfl rfl ?_
              refine z_bipush (v := (100 : Int32)) dX7_flies_67 (by decide) rfl ?_
              refine z_idiv dX7_flies_69 (by decide) rfl ?_
              refine z_bipush (v := (20 : Int32)) dX7_flies_70 (by decide) rfl ?_
              refine z_isub dX7_flies_72 rfl ?_
              refine z_putI f_X7_132 (i_Th hpo12) rfl (Or.inl rfl) rfl rfl dX7_flies_73 rfl ?_
              refine z_aload dX7_flies_76 rfl rfl ?_
              refine z_iload dX7_flies_78 rfl rfl ?_
              refine z_bipush (v := (100 : Int32)) dX7_flies_80 (by decide) rfl ?_
              refine z_irem dX7_flies_82 (by decide) rfl ?_
              refine z_bipush (v := (20 : Int32)) dX7_flies_83 (by decide) rfl ?_
              refine z_isub dX7_flies_85 rfl ?_
              refine z_putI f_X7_135 (i_Th hpo12) rfl (Or.inl rfl) rfl rfl dX7_flies_86 rfl ?_
              refine z_aload dX7_flies_89 rfl rfl ?_
              refine z_iload dX7_flies_91 rfl rfl ?_
              refine z_putI f_X7_138 (i_Th hpo12) rfl (Or.inl rfl) rfl rfl dX7_flies_93 rfl ?_
              refine z_aload_n (i := 0) dX7_flies_96 rfl rfl rfl ?_
              refine z_getI (x := s11.1 64 5) ((zI_k (by decide)).trans ((zI_k (by decide)).trans (zI_k (by decide)))) f_X7_103 i_64 rfl dX7_flies_97 rfl ?_
              refine z_iconst (v := (1 : Int32)) dX7_flies_100 (by decide) rfl ?_
              refine z_isub dX7_flies_101 rfl ?_
              exact z_ret (some (.int ((s11.1 64 5) - (1 : Int32)))) (Or.inr (Or.inl ⟨_, _, rfl, rfl, rfl, dX7_flies_102⟩)) zN200 ⟨_, rfl, h⟩
            · have h := zif h c
              refine z_iconst (v := (-1 : Int32)) dX7_flies_50 (by decide) rfl ?_
              exact z_ret (some (.int (-1 : Int32))) (Or.inr (Or.inl ⟨_, _, rfl, rfl, rfl, dX7_flies_51⟩)) zN200 ⟨_, rfl, h⟩
theorem dX7_flare_0 : decode cX7_flare 0 = .ok (.iload_n 1, 1) := by decide +kernel
theorem dX7_flare_1 : decode cX7_flare 1 = .ok (.invokestatic 123, 3) := by decide +kernel
theorem dX7_flare_4 : decode cX7_flare 4 = .ok (.ifCond .eq 34, 3) := by decide +kernel
theorem dX7_flare_7 : decode cX7_flare 7 = .ok (.iload_n 2, 1) := by decide +kernel
theorem dX7_flare_8 : decode cX7_flare 8 = .ok (.invokestatic 86, 3) := by decide +kernel
theorem dX7_flare_11 : decode cX7_flare 11 = .ok (.ifCond .eq 27, 3) := by decide +kernel
theorem dX7_flare_14 : decode cX7_flare 14 = .ok (.iload_n 3, 1) := by decide +kernel
theorem dX7_flare_15 : decode cX7_flare 15 = .ok (.invokestatic 126, 3) := by decide +kernel
theorem dX7_flare_18 : decode cX7_flare 18 = .ok (.ifCond .eq 20, 3) := by decide +kernel
theorem dX7_flare_21 : decode cX7_flare 21 = .ok (.iload 4, 2) := by decide +kernel
theorem dX7_flare_23 : decode cX7_flare 23 = .ok (.invokestatic 141, 3) := by decide +kernel
theorem dX7_flare_26 : decode cX7_flare 26 = .ok (.ifCond .eq 12, 3) := by decide +kernel
theorem dX7_flare_29 : decode cX7_flare 29 = .ok (.aload_n 0, 1) := by decide +kernel
theorem dX7_flare_30 : decode cX7_flare 30 = .ok (.getfield 103, 3) := by decide +kernel
theorem dX7_flare_33 : decode cX7_flare 33 = .ok (.bipush 12, 2) := by decide +kernel
theorem dX7_flare_35 : decode cX7_flare 35 = .ok (.if_icmp .lt 5, 3) := by decide +kernel
theorem dX7_flare_38 : decode cX7_flare 38 = .ok (.iconst (-1), 1) := by decide +kernel
theorem dX7_flare_39 : decode cX7_flare 39 = .ok (.ireturn, 1) := by decide +kernel
theorem dX7_flare_40 : decode cX7_flare 40 = .ok (.aload_n 0, 1) := by decide +kernel
theorem dX7_flare_41 : decode cX7_flare 41 = .ok (.iconst 2, 1) := by decide +kernel
theorem dX7_flare_42 : decode cX7_flare 42 = .ok (.iload_n 1, 1) := by decide +kernel
theorem dX7_flare_43 : decode cX7_flare 43 = .ok (.iload_n 2, 1) := by decide +kernel
theorem dX7_flare_44 : decode cX7_flare 44 = .ok (.iload_n 3, 1) := by decide +kernel
theorem dX7_flare_45 : decode cX7_flare 45 = .ok (.invokevirtual 106, 3) := by decide +kernel
theorem dX7_flare_48 : decode cX7_flare 48 = .ok (.astore 5, 2) := by decide +kernel
theorem dX7_flare_50 : decode cX7_flare 50 = .ok (.aload 5, 2) := by decide +kernel
theorem dX7_flare_52 : decode cX7_flare 52 = .ok (.iload 4, 2) := by decide +kernel
theorem dX7_flare_54 : decode cX7_flare 54 = .ok (.putfield 144, 3) := by decide +kernel
theorem dX7_flare_57 : decode cX7_flare 57 = .ok (.aload_n 0, 1) := by decide +kernel
theorem dX7_flare_58 : decode cX7_flare 58 = .ok (.getfield 103, 3) := by decide +kernel
theorem dX7_flare_61 : decode cX7_flare 61 = .ok (.iconst 1, 1) := by decide +kernel
theorem dX7_flare_62 : decode cX7_flare 62 = .ok (.isub, 1) := by decide +kernel
theorem dX7_flare_63 : decode cX7_flare 63 = .ok (.ireturn, 1) := by decide +kernel
set_option maxHeartbeats 4000000 in
set_option maxRecDepth 100000 in
theorem t_X7_flare {l : Launch} {g : zG} {d : Nat} {s : zS} (hR : zRok s) {p0 : Int32} {p1 : Int32} {p2 : Int32} {p3 : Int32} {K : Int32 → zS → Prop} (h : (zc l g d M_X7_isSpan [.int p0] s (zKz (fun b2 s1 => s1.2.2.1 = s.2.2.1 ∧ (if b2 = true then (zc l g d M_X7_isPlace [.int p1] s1 (zKz (fun b4 s3 => s3.2.2.1 = s1.2.2.1 ∧ (if b4 = true then (zc l g d M_X7_isHeight [.int p2] s3 (zKz (fun b6 s5 => s5.2.2.1 = s3.2.2.1 ∧ (if b6 = true then (zc l g d M_X7_isFall [.int p3] s5 (zKz (fun b8 s7 => s7.2.2.1 = s5.2.2.1 ∧ (if b8 = true then (if (s7.1 64 5) < (12 : Int32) then (zc l g d M_X7_newThing [.ref 64, .int (2 : Int32), .int p0, .int p1, .int p2] s7 (zKr (fun o10 s9 => s9.2.2.1 = s7.2.2.1 ∧ (92 ≤ o10 ∧ o10 < 104) ∧ K ((s9.1 64 5) - (1 : Int32)) (zI s9 o10 9 p3)))) else K (-1 : Int32) s7) else K (-1 : Int32) s7)))) else K (-1 : Int32) s5)))) else K (-1 : Int32) s3)))) else K (-1 : Int32) s1))))) : zc l g (d + 1) M_X7_flare [.ref 64, .int p0, .int p1, .int p2, .int p3] s (zKi K) := by
  refine zCall_of k_X7_flare (Nat.le_of_ble_eq_true rfl) (Nat.le_refl _) (fun _ => ?_)
  show zt l g (d + 1) M_X7_flare 0 [.ref 64, .int p0, .int p1, .int p2, .int p3, zJ] [] s (zKi K)
  refine z_iload_n (i := 1) dX7_flare_0 rfl rfl rfl ?_
  refine z_callS (as := [.int p0]) k_X7_isSpan m_X7_123 rfl h rfl (Nat.le_of_ble_eq_true rfl) dX7_flare_1 zy200 rfl ?_
  rintro v s1 ⟨b2, rfl, hRs1, h⟩
  show zt l g (d + 1) M_X7_flare 4 [.ref 64, .int p0, .int p1, .int p2, .int p3, zJ] [.int (zb b2)] s1 _
  refine z_ifb_eq (pt := 38) dX7_flare_4 (by decide) rfl (fun c => ?_) (fun c => ?_)
  · have h := zif h (by rw [c]; exact Bool.false_ne_true)
    refine z_iconst (v := (-1 : Int32)) dX7_flare_38 (by decide) rfl ?_
    exact z_ret (some (.int (-1 : Int32))) (Or.inr (Or.inl ⟨_, _, rfl, rfl, rfl, dX7_flare_39⟩)) zN200 ⟨_, rfl, h⟩
  · have h := zit h c
    refine z_iload_n (i := 2) dX7_flare_7 rfl rfl rfl ?_
    refine z_callS (as := [.int p1]) k_X7_isPlace m_X7_86 rfl h rfl (Nat.le_of_ble_eq_true rfl) dX7_flare_8 zy200 rfl ?_
    rintro v s3 ⟨b4, rfl, hRs3, h⟩
    show zt l g (d + 1) M_X7_flare 11 [.ref 64, .int p0, .int p1, .int p2, .int p3, zJ] [.int (zb b4)] s3 _
    refine z_ifb_eq (pt := 38) dX7_flare_11 (by decide) rfl (fun c => ?_) (fun c => ?_)
    · have h := zif h (by rw [c]; exact Bool.false_ne_true)
      refine z_iconst (v := (-1 : Int32)) dX7_flare_38 (by decide) rfl ?_
      exact z_ret (some (.int (-1 : Int32))) (Or.inr (Or.inl ⟨_, _, rfl, rfl, rfl, dX7_flare_39⟩)) zN200 ⟨_, rfl, h⟩
    · have h := zit h c
      refine z_iload_n (i := 3) dX7_flare_14 rfl rfl rfl ?_
      refine z_callS (as := [.int p2]) k_X7_isHeight m_X7_126 rfl h rfl (Nat.le_of_ble_eq_true rfl) dX7_flare_15 zy200 rfl ?_
      rintro v s5 ⟨b6, rfl, hRs5, h⟩
      show zt l g (d + 1) M_X7_flare 18 [.ref 64, .int p0, .int p1, .int p2, .int p3, zJ] [.int (zb b6)] s5 _
      refine z_ifb_eq (pt := 38) dX7_flare_18 (by decide) rfl (fun c => ?_) (fun c => ?_)
      · have h := zif h (by rw [c]; exact Bool.false_ne_true)
        refine z_iconst (v := (-1 : Int32)) dX7_flare_38 (by decide) rfl ?_
        exact z_ret (some (.int (-1 : Int32))) (Or.inr (Or.inl ⟨_, _, rfl, rfl, rfl, dX7_flare_39⟩)) zN200 ⟨_, rfl, h⟩
      · have h := zit h c
        refine z_iload dX7_flare_21 rfl rfl ?_
        refine z_callS (as := [.int p3]) k_X7_isFall m_X7_141 rfl h rfl (Nat.le_of_ble_eq_true rfl) dX7_flare_23 zy200 rfl ?_
        rintro v s7 ⟨b8, rfl, hRs7, h⟩
        show zt l g (d + 1) M_X7_flare 26 [.ref 64, .int p0, .int p1, .int p2, .int p3, zJ] [.int (zb b8)] s7 _
        refine z_ifb_eq (pt := 38) dX7_flare_26 (by decide) rfl (fun c => ?_) (fun c => ?_)
        · have h := zif h (by rw [c]; exact Bool.false_ne_true)
          refine z_iconst (v := (-1 : Int32)) dX7_flare_38 (by decide) rfl ?_
          exact z_ret (some (.int (-1 : Int32))) (Or.inr (Or.inl ⟨_, _, rfl, rfl, rfl, dX7_flare_39⟩)) zN200 ⟨_, rfl, h⟩
        · have h := zit h c
          refine z_aload_n (i := 0) dX7_flare_29 rfl rfl rfl ?_
          refine z_getI (x := s7.1 64 5) rfl f_X7_103 i_64 rfl dX7_flare_30 rfl ?_
          refine z_bipush (v := (12 : Int32)) dX7_flare_33 (by decide) rfl ?_
          refine z_icmp_lt (pt := 40) dX7_flare_35 (by decide) rfl (fun c => ?_) (fun c => ?_)
          · have h := zit h c
            refine z_aload_n (i := 0) dX7_flare_40 rfl rfl rfl ?_
            refine z_iconst (v := (2 : Int32)) dX7_flare_41 (by decide) rfl ?_
            refine z_iload_n (i := 1) dX7_flare_42 rfl rfl rfl ?_
            refine z_iload_n (i := 2) dX7_flare_43 rfl rfl rfl ?_
            refine z_iload_n (i := 3) dX7_flare_44 rfl rfl rfl ?_
            refine z_callV k_X7_newThing m_X7_106 (zRec_of i_64) rfl h rfl (Nat.le_of_ble_eq_true rfl) dX7_flare_45 zy200 rfl ?_
            rintro v s9 ⟨o10, rfl, hRs9, hpo10, h⟩
            show zt l g (d + 1) M_X7_flare 48 [.ref 64, .int p0, .int p1, .int p2, .int p3, zJ] [.ref o10] s9 _
            refine z_astore dX7_flare_48 (by decide) (zokd rfl) rfl ?_
            show zt l g (d + 1) M_X7_flare 50 [.ref 64, .int p0, .int p1, .int p2, .int p3, .ref o10] [] s9 _
            refine z_aload dX7_flare_50 rfl rfl ?_
            refine z_iload dX7_flare_52 rfl rfl ?_
            refine z_putI f_X7_144 (i_Th hpo10) rfl (Or.inl rfl) rfl rfl dX7_flare_54 rfl ?_
            refine z_aload_n (i := 0) dX7_flare_57 rfl rfl rfl ?_
            refine z_getI (x := s9.1 64 5) (zI_k (by decide)) f_X7_103 i_64 rfl dX7_flare_58 rfl ?_
            refine z_iconst (v := (1 : Int32)) dX7_flare_61 (by decide) rfl ?_
            refine z_isub dX7_flare_62 rfl ?_
            exact z_ret (some (.int ((s9.1 64 5) - (1 : Int32)))) (Or.inr (Or.inl ⟨_, _, rfl, rfl, rfl, dX7_flare_63⟩)) zN200 ⟨_, rfl, h⟩
          · have h := zif h c
            refine z_iconst (v := (-1 : Int32)) dX7_flare_38 (by decide) rfl ?_
            exact z_ret (some (.int (-1 : Int32))) (Or.inr (Or.inl ⟨_, _, rfl, rfl, rfl, dX7_flare_39⟩)) zN200 ⟨_, rfl, h⟩
theorem dX7_lamp_0 : decode cX7_lamp 0 = .ok (.iload_n 1, 1) := by decide +kernel
theorem dX7_lamp_1 : decode cX7_lamp 1 = .ok (.invokestatic 86, 3) := by decide +kernel
theorem dX7_lamp_4 : decode cX7_lamp 4 = .ok (.ifCond .eq 44, 3) := by decide +kernel
theorem dX7_lamp_7 : decode cX7_lamp 7 = .ok (.iload_n 2, 1) := by decide +kernel
theorem dX7_lamp_8 : decode cX7_lamp 8 = .ok (.ifCond .lt 40, 3) := by decide +kernel
theorem dX7_lamp_11 : decode cX7_lamp 11 = .ok (.iload_n 2, 1) := by decide +kernel
theorem dX7_lamp_12 : decode cX7_lamp 12 = .ok (.bipush 60, 2) := by decide +kernel
theorem dX7_lamp_14 : decode cX7_lamp 14 = .ok (.if_icmp .gt 34, 3) := by decide +kernel
theorem dX7_lamp_17 : decode cX7_lamp 17 = .ok (.iload_n 3, 1) := by decide +kernel
theorem dX7_lamp_18 : decode cX7_lamp 18 = .ok (.iconst 1, 1) := by decide +kernel
theorem dX7_lamp_19 : decode cX7_lamp 19 = .ok (.if_icmp .lt 29, 3) := by decide +kernel
theorem dX7_lamp_22 : decode cX7_lamp 22 = .ok (.iload_n 3, 1) := by decide +kernel
theorem dX7_lamp_23 : decode cX7_lamp 23 = .ok (.bipush 30, 2) := by decide +kernel
theorem dX7_lamp_25 : decode cX7_lamp 25 = .ok (.if_icmp .gt 23, 3) := by decide +kernel
theorem dX7_lamp_28 : decode cX7_lamp 28 = .ok (.iload 4, 2) := by decide +kernel
theorem dX7_lamp_30 : decode cX7_lamp 30 = .ok (.ifCond .lt 18, 3) := by decide +kernel
theorem dX7_lamp_33 : decode cX7_lamp 33 = .ok (.iload 4, 2) := by decide +kernel
theorem dX7_lamp_35 : decode cX7_lamp 35 = .ok (.iload_n 3, 1) := by decide +kernel
theorem dX7_lamp_36 : decode cX7_lamp 36 = .ok (.if_icmp .ge 12, 3) := by decide +kernel
theorem dX7_lamp_39 : decode cX7_lamp 39 = .ok (.aload_n 0, 1) := by decide +kernel
theorem dX7_lamp_40 : decode cX7_lamp 40 = .ok (.getfield 103, 3) := by decide +kernel
theorem dX7_lamp_43 : decode cX7_lamp 43 = .ok (.bipush 12, 2) := by decide +kernel
theorem dX7_lamp_45 : decode cX7_lamp 45 = .ok (.if_icmp .lt 5, 3) := by decide +kernel
theorem dX7_lamp_48 : decode cX7_lamp 48 = .ok (.iconst (-1), 1) := by decide +kernel
theorem dX7_lamp_49 : decode cX7_lamp 49 = .ok (.ireturn, 1) := by decide +kernel
theorem dX7_lamp_50 : decode cX7_lamp 50 = .ok (.aload_n 0, 1) := by decide +kernel
theorem dX7_lamp_51 : decode cX7_lamp 51 = .ok (.iconst 3, 1) := by decide +kernel
theorem dX7_lamp_52 : decode cX7_lamp 52 = .ok (.sipush 239, 3) := by decide +kernel
theorem dX7_lamp_55 : decode cX7_lamp 55 = .ok (.iload_n 1, 1) := by decide +kernel
theorem dX7_lamp_56 : decode cX7_lamp 56 = .ok (.iload_n 2, 1) := by decide +kernel
theorem dX7_lamp_57 : decode cX7_lamp 57 = .ok (.invokevirtual 106, 3) := by decide +kernel
theorem dX7_lamp_60 : decode cX7_lamp 60 = .ok (.astore 5, 2) := by decide +kernel
theorem dX7_lamp_62 : decode cX7_lamp 62 = .ok (.aload 5, 2) := by decide +kernel
theorem dX7_lamp_64 : decode cX7_lamp 64 = .ok (.iload_n 3, 1) := by decide +kernel
theorem dX7_lamp_65 : decode cX7_lamp 65 = .ok (.putfield 147, 3) := by decide +kernel
theorem dX7_lamp_68 : decode cX7_lamp 68 = .ok (.aload 5, 2) := by decide +kernel
theorem dX7_lamp_70 : decode cX7_lamp 70 = .ok (.iload 4, 2) := by decide +kernel
theorem dX7_lamp_72 : decode cX7_lamp 72 = .ok (.putfield 150, 3) := by decide +kernel
theorem dX7_lamp_75 : decode cX7_lamp 75 = .ok (.aload_n 0, 1) := by decide +kernel
theorem dX7_lamp_76 : decode cX7_lamp 76 = .ok (.getfield 103, 3) := by decide +kernel
theorem dX7_lamp_79 : decode cX7_lamp 79 = .ok (.iconst 1, 1) := by decide +kernel
theorem dX7_lamp_80 : decode cX7_lamp 80 = .ok (.isub, 1) := by decide +kernel
theorem dX7_lamp_81 : decode cX7_lamp 81 = .ok (.ireturn, 1) := by decide +kernel
set_option maxHeartbeats 4000000 in
set_option maxRecDepth 100000 in
theorem t_X7_lamp {l : Launch} {g : zG} {d : Nat} {s : zS} (hR : zRok s) {p0 : Int32} {p1 : Int32} {p2 : Int32} {p3 : Int32} {K : Int32 → zS → Prop} (h : (zc l g d M_X7_isPlace [.int p0] s (zKz (fun b2 s1 => s1.2.2.1 = s.2.2.1 ∧ (if b2 = true then (if p1 < 0 then K (-1 : Int32) s1 else (if (60 : Int32) < p1 then K (-1 : Int32) s1 else (if p2 < (1 : Int32) then K (-1 : Int32) s1 else (if (30 : Int32) < p2 then K (-1 : Int32) s1 else (if p3 < 0 then K (-1 : Int32) s1 else (if p2 ≤ p3 then K (-1 : Int32) s1 else (if (s1.1 64 5) < (12 : Int32) then (zc l g d M_X7_newThing [.ref 64, .int (3 : Int32), .int (239 : Int32), .int p0, .int p1] s1 (zKr (fun o4 s3 => s3.2.2.1 = s1.2.2.1 ∧ (92 ≤ o4 ∧ o4 < 104) ∧ K ((s3.1 64 5) - (1 : Int32)) (zI (zI s3 o4 10 p2) o4 11 p3)))) else K (-1 : Int32) s1))))))) else K (-1 : Int32) s1))))) : zc l g (d + 1) M_X7_lamp [.ref 64, .int p0, .int p1, .int p2, .int p3] s (zKi K) := by
  refine zCall_of k_X7_lamp (Nat.le_of_ble_eq_true rfl) (Nat.le_refl _) (fun _ => ?_)
  show zt l g (d + 1) M_X7_lamp 0 [.ref 64, .int p0, .int p1, .int p2, .int p3, zJ] [] s (zKi K)
  refine z_iload_n (i := 1) dX7_lamp_0 rfl rfl rfl ?_
  refine z_callS (as := [.int p0]) k_X7_isPlace m_X7_86 rfl h rfl (Nat.le_of_ble_eq_true rfl) dX7_lamp_1 zy200 rfl ?_
  rintro v s1 ⟨b2, rfl, hRs1, h⟩
  show zt l g (d + 1) M_X7_lamp 4 [.ref 64, .int p0, .int p1, .int p2, .int p3, zJ] [.int (zb b2)] s1 _
  refine z_ifb_eq (pt := 48) dX7_lamp_4 (by decide) rfl (fun c => ?_) (fun c => ?_)
  · have h := zif h (by rw [c]; exact Bool.false_ne_true)
    refine z_iconst (v := (-1 : Int32)) dX7_lamp_48 (by decide) rfl ?_
    exact z_ret (some (.int (-1 : Int32))) (Or.inr (Or.inl ⟨_, _, rfl, rfl, rfl, dX7_lamp_49⟩)) zN200 ⟨_, rfl, h⟩
  · have h := zit h c
    refine z_iload_n (i := 2) dX7_lamp_7 rfl rfl rfl ?_
    refine z_if_lt (pt := 48) dX7_lamp_8 (by decide) rfl (fun c => ?_) (fun c => ?_)
    · have h := zit h c
      refine z_iconst (v := (-1 : Int32)) dX7_lamp_48 (by decide) rfl ?_
      exact z_ret (some (.int (-1 : Int32))) (Or.inr (Or.inl ⟨_, _, rfl, rfl, rfl, dX7_lamp_49⟩)) zN200 ⟨_, rfl, h⟩
    · have h := zif h c
      refine z_iload_n (i := 2) dX7_lamp_11 rfl rfl rfl ?_
      refine z_bipush (v := (60 : Int32)) dX7_lamp_12 (by decide) rfl ?_
      refine z_icmp_gt (pt := 48) dX7_lamp_14 (by decide) rfl (fun c => ?_) (fun c => ?_)
      · have h := zit h c
        refine z_iconst (v := (-1 : Int32)) dX7_lamp_48 (by decide) rfl ?_
        exact z_ret (some (.int (-1 : Int32))) (Or.inr (Or.inl ⟨_, _, rfl, rfl, rfl, dX7_lamp_49⟩)) zN200 ⟨_, rfl, h⟩
      · have h := zif h c
        refine z_iload_n (i := 3) dX7_lamp_17 rfl rfl rfl ?_
        refine z_iconst (v := (1 : Int32)) dX7_lamp_18 (by decide) rfl ?_
        refine z_icmp_lt (pt := 48) dX7_lamp_19 (by decide) rfl (fun c => ?_) (fun c => ?_)
        · have h := zit h c
          refine z_iconst (v := (-1 : Int32)) dX7_lamp_48 (by decide) rfl ?_
          exact z_ret (some (.int (-1 : Int32))) (Or.inr (Or.inl ⟨_, _, rfl, rfl, rfl, dX7_lamp_49⟩)) zN200 ⟨_, rfl, h⟩
        · have h := zif h c
          refine z_iload_n (i := 3) dX7_lamp_22 rfl rfl rfl ?_
          refine z_bipush (v := (30 : Int32)) dX7_lamp_23 (by decide) rfl ?_
          refine z_icmp_gt (pt := 48) dX7_lamp_25 (by decide) rfl (fun c => ?_) (fun c => ?_)
          · have h := zit h c
            refine z_iconst (v := (-1 : Int32)) dX7_lamp_48 (by decide) rfl ?_
            exact z_ret (some (.int (-1 : Int32))) (Or.inr (Or.inl ⟨_, _, rfl, rfl, rfl, dX7_lamp_49⟩)) zN200 ⟨_, rfl, h⟩
          · have h := zif h c
            refine z_iload dX7_lamp_28 rfl rfl ?_
            refine z_if_lt (pt := 48) dX7_lamp_30 (by decide) rfl (fun c => ?_) (fun c => ?_)
            · have h := zit h c
              refine z_iconst (v := (-1 : Int32)) dX7_lamp_48 (by decide) rfl ?_
              exact z_ret (some (.int (-1 : Int32))) (Or.inr (Or.inl ⟨_, _, rfl, rfl, rfl, dX7_lamp_49⟩)) zN200 ⟨_, rfl, h⟩
            · have h := zif h c
              refine z_iload dX7_lamp_33 rfl rfl ?_
              refine z_iload_n (i := 3) dX7_lamp_35 rfl rfl rfl ?_
              refine z_icmp_ge (pt := 48) dX7_lamp_36 (by decide) rfl (fun c => ?_) (fun c => ?_)
              · have h := zit h c
                refine z_iconst (v := (-1 : Int32)) dX7_lamp_48 (by decide) rfl ?_
                exact z_ret (some (.int (-1 : Int32))) (Or.inr (Or.inl ⟨_, _, rfl, rfl, rfl, dX7_lamp_49⟩)) zN200 ⟨_, rfl, h⟩
              · have h := zif h c
                refine z_aload_n (i := 0) dX7_lamp_39 rfl rfl rfl ?_
                refine z_getI (x := s1.1 64 5) rfl f_X7_103 i_64 rfl dX7_lamp_40 rfl ?_
                refine z_bipush (v := (12 : Int32)) dX7_lamp_43 (by decide) rfl ?_
                refine z_icmp_lt (pt := 50) dX7_lamp_45 (by decide) rfl (fun c => ?_) (fun c => ?_)
                · have h := zit h c
                  refine z_aload_n (i := 0) dX7_lamp_50 rfl rfl rfl ?_
                  refine z_iconst (v := (3 : Int32)) dX7_lamp_51 (by decide) rfl ?_
                  refine z_sipush (v := (239 : Int32)) dX7_lamp_52 (by decide) rfl ?_
                  refine z_iload_n (i := 1) dX7_lamp_55 rfl rfl rfl ?_
                  refine z_iload_n (i := 2) dX7_lamp_56 rfl rfl rfl ?_
                  refine z_callV k_X7_newThing m_X7_106 (zRec_of i_64) rfl h rfl (Nat.le_of_ble_eq_true rfl) dX7_lamp_57 zy200 rfl ?_
                  rintro v s3 ⟨o4, rfl, hRs3, hpo4, h⟩
                  show zt l g (d + 1) M_X7_lamp 60 [.ref 64, .int p0, .int p1, .int p2, .int p3, zJ] [.ref o4] s3 _
                  refine z_astore dX7_lamp_60 (by decide) (zokd rfl) rfl ?_
                  show zt l g (d + 1) M_X7_lamp 62 [.ref 64, .int p0, .int p1, .int p2, .int p3, .ref o4] [] s3 _
                  refine z_aload dX7_lamp_62 rfl rfl ?_
                  refine z_iload_n (i := 3) dX7_lamp_64 rfl rfl rfl ?_
                  refine z_putI f_X7_147 (i_Th hpo4) rfl (Or.inl rfl) rfl rfl dX7_lamp_65 rfl ?_
                  refine z_aload dX7_lamp_68 rfl rfl ?_
                  refine z_iload dX7_lamp_70 rfl rfl ?_
                  refine z_putI f_X7_150 (i_Th hpo4) rfl (Or.inl rfl) rfl rfl dX7_lamp_72 rfl ?_
                  refine z_aload_n (i := 0) dX7_lamp_75 rfl rfl rfl ?_
                  refine z_getI (x := s3.1 64 5) ((zI_k (by decide)).trans (zI_k (by decide))) f_X7_103 i_64 rfl dX7_lamp_76 rfl ?_
                  refine z_iconst (v := (1 : Int32)) dX7_lamp_79 (by decide) rfl ?_
                  refine z_isub dX7_lamp_80 rfl ?_
                  exact z_ret (some (.int ((s3.1 64 5) - (1 : Int32)))) (Or.inr (Or.inl ⟨_, _, rfl, rfl, rfl, dX7_lamp_81⟩)) zN200 ⟨_, rfl, h⟩
                · have h := zif h c
                  refine z_iconst (v := (-1 : Int32)) dX7_lamp_48 (by decide) rfl ?_
                  exact z_ret (some (.int (-1 : Int32))) (Or.inr (Or.inl ⟨_, _, rfl, rfl, rfl, dX7_lamp_49⟩)) zN200 ⟨_, rfl, h⟩
theorem dX7_ground_0 : decode cX7_ground 0 = .ok (.iload_n 1, 1) := by decide +kernel
theorem dX7_ground_1 : decode cX7_ground 1 = .ok (.invokestatic 86, 3) := by decide +kernel
theorem dX7_ground_4 : decode cX7_ground 4 = .ok (.ifCond .eq 21, 3) := by decide +kernel
theorem dX7_ground_7 : decode cX7_ground 7 = .ok (.aload_n 0, 1) := by decide +kernel
theorem dX7_ground_8 : decode cX7_ground 8 = .ok (.getfield 12, 3) := by decide +kernel
theorem dX7_ground_11 : decode cX7_ground 11 = .ok (.iload_n 1, 1) := by decide +kernel
theorem dX7_ground_12 : decode cX7_ground 12 = .ok (.bipush 64, 2) := by decide +kernel
theorem dX7_ground_14 : decode cX7_ground 14 = .ok (.idiv, 1) := by decide +kernel
theorem dX7_ground_15 : decode cX7_ground 15 = .ok (.iload_n 1, 1) := by decide +kernel
theorem dX7_ground_16 : decode cX7_ground 16 = .ok (.bipush 64, 2) := by decide +kernel
theorem dX7_ground_18 : decode cX7_ground 18 = .ok (.irem, 1) := by decide +kernel
theorem dX7_ground_19 : decode cX7_ground 19 = .ok (.invokevirtual 153, 3) := by decide +kernel
theorem dX7_ground_22 : decode cX7_ground 22 = .ok (.goto 4, 3) := by decide +kernel
theorem dX7_ground_25 : decode cX7_ground 25 = .ok (.iconst (-1), 1) := by decide +kernel
theorem dX7_ground_26 : decode cX7_ground 26 = .ok (.ireturn, 1) := by decide +kernel
set_option maxHeartbeats 4000000 in
set_option maxRecDepth 100000 in
theorem t_X7_ground {l : Launch} {g : zG} {d : Nat} {s : zS} (hR : zRok s) {p0 : Int32} {K : Int32 → zS → Prop} (h : (zc l g d M_X7_isPlace [.int p0] s (zKz (fun b2 s1 => s1.2.2.1 = s.2.2.1 ∧ (if b2 = true then (zc l g d M_X1_groundAt [.ref 65, .int (p0 / (64 : Int32)), .int (p0 % (64 : Int32))] s1 (zKi (fun r4 s3 => s3.2.2.1 = s1.2.2.1 ∧ K r4 s3))) else K (-1 : Int32) s1))))) : zc l g (d + 1) M_X7_ground [.ref 64, .int p0] s (zKi K) := by
  refine zCall_of k_X7_ground (Nat.le_of_ble_eq_true rfl) (Nat.le_refl _) (fun _ => ?_)
  show zt l g (d + 1) M_X7_ground 0 [.ref 64, .int p0] [] s (zKi K)
  refine z_iload_n (i := 1) dX7_ground_0 rfl rfl rfl ?_
  refine z_callS (as := [.int p0]) k_X7_isPlace m_X7_86 rfl h rfl (Nat.le_of_ble_eq_true rfl) dX7_ground_1 zy200 rfl ?_
  rintro v s1 ⟨b2, rfl, hRs1, h⟩
  show zt l g (d + 1) M_X7_ground 4 [.ref 64, .int p0] [.int (zb b2)] s1 _
  refine z_ifb_eq (pt := 25) dX7_ground_4 (by decide) rfl (fun c => ?_) (fun c => ?_)
  · have h := zif h (by rw [c]; exact Bool.false_ne_true)
    refine z_iconst (v := (-1 : Int32)) dX7_ground_25 (by decide) rfl ?_
    exact z_ret (some (.int (-1 : Int32))) (Or.inr (Or.inl ⟨_, _, rfl, rfl, rfl, dX7_ground_26⟩)) zN200 ⟨_, rfl, h⟩
  · have h := zit h c
    refine z_aload_n (i := 0) dX7_ground_7 rfl rfl rfl ?_
    refine z_getR (q := 65) f_X7_12 i_64 rfl (r_64_0 (zRok_of hRs1 hR)) (by decide) dX7_ground_8 rfl ?_
    refine z_iload_n (i := 1) dX7_ground_11 rfl rfl rfl ?_
    refine z_bipush (v := (64 : Int32)) dX7_ground_12 (by decide) rfl ?_
    refine z_idiv dX7_ground_14 (by decide) rfl ?_
    refine z_iload_n (i := 1) dX7_ground_15 rfl rfl rfl ?_
    refine z_bipush (v := (64 : Int32)) dX7_ground_16 (by decide) rfl ?_
    refine z_irem dX7_ground_18 (by decide) rfl ?_
    refine z_callV k_X1_groundAt m_X7_153 (zRec_of i_65) rfl h rfl (Nat.le_of_ble_eq_true rfl) dX7_ground_19 zy200 rfl ?_
    rintro v s3 ⟨r4, rfl, hRs3, h⟩
    show zt l g (d + 1) M_X7_ground 22 [.ref 64, .int p0] [.int r4] s3 _
    refine z_goto (pn := 26) dX7_ground_22 (by decide) ?_
    exact z_ret (some (.int r4)) (Or.inr (Or.inl ⟨_, _, rfl, rfl, rfl, dX7_ground_26⟩)) zN200 ⟨_, rfl, h⟩
theorem dX7_at_0 : decode cX7_at 0 = .ok (.aload_n 0, 1) := by decide +kernel
theorem dX7_at_1 : decode cX7_at 1 = .ok (.iload_n 1, 1) := by decide +kernel
theorem dX7_at_2 : decode cX7_at 2 = .ok (.invokevirtual 157, 3) := by decide +kernel
theorem dX7_at_5 : decode cX7_at 5 = .ok (.ifCond .eq 19, 3) := by decide +kernel
theorem dX7_at_8 : decode cX7_at 8 = .ok (.iload_n 2, 1) := by decide +kernel
theorem dX7_at_9 : decode cX7_at 9 = .ok (.invokestatic 160, 3) := by decide +kernel
theorem dX7_at_12 : decode cX7_at 12 = .ok (.ifCond .eq 12, 3) := by decide +kernel
theorem dX7_at_15 : decode cX7_at 15 = .ok (.iload_n 3, 1) := by decide +kernel
theorem dX7_at_16 : decode cX7_at 16 = .ok (.ifCond .lt 8, 3) := by decide +kernel
theorem dX7_at_19 : decode cX7_at 19 = .ok (.iload_n 3, 1) := by decide +kernel
theorem dX7_at_20 : decode cX7_at 20 = .ok (.iconst 3, 1) := by decide +kernel
theorem dX7_at_21 : decode cX7_at 21 = .ok (.if_icmp .le 6, 3) := by decide +kernel
theorem dX7_at_24 : decode cX7_at 24 = .ok (.ldc 163, 2) := by decide +kernel
theorem dX7_at_26 : decode cX7_at 26 = .ok (.ireturn, 1) := by decide +kernel
theorem dX7_at_27 : decode cX7_at 27 = .ok (.aload_n 0, 1) := by decide +kernel
theorem dX7_at_28 : decode cX7_at 28 = .ok (.getfield 31, 3) := by decide +kernel
theorem dX7_at_31 : decode cX7_at 31 = .ok (.iload_n 1, 1) := by decide +kernel
theorem dX7_at_32 : decode cX7_at 32 = .ok (.aaload, 1) := by decide +kernel
theorem dX7_at_33 : decode cX7_at 33 = .ok (.astore 4, 2) := by decide +kernel
theorem dX7_at_35 : decode cX7_at 35 = .ok (.iload_n 3, 1) := by decide +kernel
theorem dX7_at_36 : decode cX7_at 36 = .ok (.iconst 3, 1) := by decide +kernel
theorem dX7_at_37 : decode cX7_at 37 = .ok (.if_icmp .ne 9, 3) := by decide +kernel
theorem dX7_at_40 : decode cX7_at 40 = .ok (.aload 4, 2) := by decide +kernel
theorem dX7_at_42 : decode cX7_at 42 = .ok (.getfield 164, 3) := by decide +kernel
theorem dX7_at_45 : decode cX7_at 45 = .ok (.ireturn, 1) := by decide +kernel
theorem dX7_at_46 : decode cX7_at 46 = .ok (.aload 4, 2) := by decide +kernel
theorem dX7_at_48 : decode cX7_at 48 = .ok (.iload_n 2, 1) := by decide +kernel
theorem dX7_at_49 : decode cX7_at 49 = .ok (.aload_n 0, 1) := by decide +kernel
theorem dX7_at_50 : decode cX7_at 50 = .ok (.getfield 12, 3) := by decide +kernel
theorem dX7_at_53 : decode cX7_at 53 = .ok (.invokevirtual 167, 3) := by decide +kernel
theorem dX7_at_56 : decode cX7_at 56 = .ok (.ifCond .ne 6, 3) := by decide +kernel
theorem dX7_at_59 : decode cX7_at 59 = .ok (.ldc 163, 2) := by decide +kernel
theorem dX7_at_61 : decode cX7_at 61 = .ok (.ireturn, 1) := by decide +kernel
theorem dX7_at_62 : decode cX7_at 62 = .ok (.iload_n 3, 1) := by decide +kernel
theorem dX7_at_63 : decode cX7_at 63 = .ok (.ifCond .ne 10, 3) := by decide +kernel
theorem dX7_at_66 : decode cX7_at 66 = .ok (.aload 4, 2) := by decide +kernel
theorem dX7_at_68 : decode cX7_at 68 = .ok (.iload_n 2, 1) := by decide +kernel
theorem dX7_at_69 : decode cX7_at 69 = .ok (.invokevirtual 171, 3) := by decide +kernel
theorem dX7_at_72 : decode cX7_at 72 = .ok (.ireturn, 1) := by decide +kernel
theorem dX7_at_73 : decode cX7_at 73 = .ok (.iload_n 3, 1) := by decide +kernel
theorem dX7_at_74 : decode cX7_at 74 = .ok (.iconst 1, 1) := by decide +kernel
theorem dX7_at_75 : decode cX7_at 75 = .ok (.if_icmp .ne 12, 3) := by decide +kernel
theorem dX7_at_78 : decode cX7_at 78 = .ok (.aload 4, 2) := by decide +kernel
theorem dX7_at_80 : decode cX7_at 80 = .ok (.iload_n 2, 1) := by decide +kernel
theorem dX7_at_81 : decode cX7_at 81 = .ok (.invokevirtual 174, 3) := by decide +kernel
theorem dX7_at_84 : decode cX7_at 84 = .ok (.goto 13, 3) := by decide +kernel
theorem dX7_at_87 : decode cX7_at 87 = .ok (.aload 4, 2) := by decide +kernel
theorem dX7_at_89 : decode cX7_at 89 = .ok (.iload_n 2, 1) := by decide +kernel
theorem dX7_at_90 : decode cX7_at 90 = .ok (.aload_n 0, 1) := by decide +kernel
theorem dX7_at_91 : decode cX7_at 91 = .ok (.getfield 12, 3) := by decide +kernel
theorem dX7_at_94 : decode cX7_at 94 = .ok (.invokevirtual 177, 3) := by decide +kernel
theorem dX7_at_97 : decode cX7_at 97 = .ok (.ireturn, 1) := by decide +kernel
set_option maxHeartbeats 4000000 in
set_option maxRecDepth 100000 in
theorem t_X7_at {l : Launch} {g : zG} {d : Nat} {s : zS} (hR : zRok s) {p0 : Int32} {p1 : Int32} {p2 : Int32} {K : Int32 → zS → Prop} (h : (zc l g d M_X7_isThing [.ref 64, .int p0] s (zKz (fun b2 s1 => s1.2.2.1 = s.2.2.1 ∧ (if b2 = true then (zc l g d M_X7_isMinute [.int p1] s1 (zKz (fun b4 s3 => s3.2.2.1 = s1.2.2.1 ∧ (if b4 = true then (if p2 < 0 then K (-2147483648 : Int32) s3 else (if p2 ≤ (3 : Int32) then (vp_in p0 12 ∧ (if p2 = (3 : Int32) then K (s3.1 (92 + p0.toNatClampNeg) 0) s3 else (zc l g d M_X6_isThere [.ref (92 + p0.toNatClampNeg), .int p1, .ref 65] s3 (zKz (fun b7 s6 => s6.2.2.1 = s3.2.2.1 ∧ (if b7 = true then (if p2 = 0 then (zc l g d M_X6_xIn [.ref (92 + p0.toNatClampNeg), .int p1] s6 (zKi (fun r13 s12 => s12.2.2.1 = s6.2.2.1 ∧ K r13 s12))) else (if p2 = (1 : Int32) then (zc l g d M_X6_yIn [.ref (92 + p0.toNatClampNeg), .int p1] s6 (zKi (fun r11 s10 => s10.2.2.1 = s6.2.2.1 ∧ K r11 s10))) else (zc l g d M_X6_zIn [.ref (92 + p0.toNatClampNeg), .int p1, .ref 65] s6 (zKi (fun r9 s8 => s8.2.2.1 = s6.2.2.1 ∧ K r9 s8))))) else K (-2147483648 : Int32) s6)))))) else K (-2147483648 : Int32) s3)) else K (-2147483648 : Int32) s3)))) else K (-2147483648 : Int32) s1))))) : zc l g (d + 1) M_X7_at [.ref 64, .int p0, .int p1, .int p2] s (zKi K) := by
  refine zCall_of k_X7_at (Nat.le_of_ble_eq_true rfl) (Nat.le_refl _) (fun _ => ?_)
  show zt l g (d + 1) M_X7_at 0 [.ref 64, .int p0, .int p1, .int p2, zJ] [] s (zKi K)
  refine z_aload_n (i := 0) dX7_at_0 rfl rfl rfl ?_
  refine z_iload_n (i := 1) dX7_at_1 rfl rfl rfl ?_
  refine z_callV k_X7_isThing m_X7_157 (zRec_of i_64) rfl h rfl (Nat.le_of_ble_eq_true rfl) dX7_at_2 zy200 rfl ?_
  rintro v s1 ⟨b2, rfl, hRs1, h⟩
  show zt l g (d + 1) M_X7_at 5 [.ref 64, .int p0, .int p1, .int p2, zJ] [.int (zb b2)] s1 _
  refine z_ifb_eq (pt := 24) dX7_at_5 (by decide) rfl (fun c => ?_) (fun c => ?_)
  · have h := zif h (by rw [c]; exact Bool.false_ne_true)
    refine z_ldc (v := (-2147483648 : Int32)) q_X7_163 dX7_at_24 rfl ?_
    exact z_ret (some (.int (-2147483648 : Int32))) (Or.inr (Or.inl ⟨_, _, rfl, rfl, rfl, dX7_at_26⟩)) zN200 ⟨_, rfl, h⟩
  · have h := zit h c
    refine z_iload_n (i := 2) dX7_at_8 rfl rfl rfl ?_
    refine z_callS (as := [.int p1]) k_X7_isMinute m_X7_160 rfl h rfl (Nat.le_of_ble_eq_true rfl) dX7_at_9 zy200 rfl ?_
    rintro v s3 ⟨b4, rfl, hRs3, h⟩
    show zt l g (d + 1) M_X7_at 12 [.ref 64, .int p0, .int p1, .int p2, zJ] [.int (zb b4)] s3 _
    refine z_ifb_eq (pt := 24) dX7_at_12 (by decide) rfl (fun c => ?_) (fun c => ?_)
    · have h := zif h (by rw [c]; exact Bool.false_ne_true)
      refine z_ldc (v := (-2147483648 : Int32)) q_X7_163 dX7_at_24 rfl ?_
      exact z_ret (some (.int (-2147483648 : Int32))) (Or.inr (Or.inl ⟨_, _, rfl, rfl, rfl, dX7_at_26⟩)) zN200 ⟨_, rfl, h⟩
    · have h := zit h c
      refine z_iload_n (i := 3) dX7_at_15 rfl rfl rfl ?_
      refine z_if_lt (pt := 24) dX7_at_16 (by decide) rfl (fun c => ?_) (fun c => ?_)
      · have h := zit h c
        refine z_ldc (v := (-2147483648 : Int32)) q_X7_163 dX7_at_24 rfl ?_
        exact z_ret (some (.int (-2147483648 : Int32))) (Or.inr (Or.inl ⟨_, _, rfl, rfl, rfl, dX7_at_26⟩)) zN200 ⟨_, rfl, h⟩
      · have h := zif h c
        refine z_iload_n (i := 3) dX7_at_19 rfl rfl rfl ?_
        refine z_iconst (v := (3 : Int32)) dX7_at_20 (by decide) rfl ?_
        refine z_icmp_le (pt := 27) dX7_at_21 (by decide) rfl (fun c => ?_) (fun c => ?_)
        · have h := zit h c
          refine z_aload_n (i := 0) dX7_at_27 rfl rfl rfl ?_
          refine z_getR (q := 70) f_X7_31 i_64 rfl (r_64_4 (zRok_of hRs3 (zRok_of hRs1 hR))) (by decide) dX7_at_28 rfl ?_
          refine z_iload_n (i := 1) dX7_at_31 rfl rfl rfl ?_
          obtain ⟨a5, h⟩ := h
          have wa5 := vin a5
          refine z_aald (q := 92 + p0.toNatClampNeg) (by decide) a_70 a5 (r_70 (zRok_of hRs3 (zRok_of hRs1 hR)) a5) (by omega) dX7_at_32 rfl ?_
          refine z_astore dX7_at_33 (by decide) (zokd rfl) rfl ?_
          show zt l g (d + 1) M_X7_at 35 [.ref 64, .int p0, .int p1, .int p2, .ref (92 + p0.toNatClampNeg)] [] s3 _
          refine z_iload_n (i := 3) dX7_at_35 rfl rfl rfl ?_
          refine z_iconst (v := (3 : Int32)) dX7_at_36 (by decide) rfl ?_
          refine z_icmp_ne (pt := 46) dX7_at_37 (by decide) rfl (fun c => ?_) (fun c => ?_)
          · have h := zif h c
            refine z_aload dX7_at_46 rfl rfl ?_
            refine z_iload_n (i := 2) dX7_at_48 rfl rfl rfl ?_
            refine z_aload_n (i := 0) dX7_at_49 rfl rfl rfl ?_
            refine z_getR (q := 65) f_X7_12 i_64 rfl (r_64_0 (zRok_of hRs3 (zRok_of hRs1 hR))) (by decide) dX7_at_50 rfl ?_
            refine z_callV k_X6_isThere m_X7_167 (zRec_of (i_Th (p_70 a5))) rfl h rfl (Nat.le_of_ble_eq_true rfl) dX7_at_53 zy200 rfl ?_
            rintro v s6 ⟨b7, rfl, hRs6, h⟩
            show zt l g (d + 1) M_X7_at 56 [.ref 64, .int p0, .int p1, .int p2, .ref (92 + p0.toNatClampNeg)] [.int (zb b7)] s6 _
            refine z_ifb_ne (pt := 62) dX7_at_56 (by decide) rfl (fun c => ?_) (fun c => ?_)
            · have h := zit h c
              refine z_iload_n (i := 3) dX7_at_62 rfl rfl rfl ?_
              refine z_if_ne (pt := 73) dX7_at_63 (by decide) rfl (fun c => ?_) (fun c => ?_)
              · have h := zif h c
                refine z_iload_n (i := 3) dX7_at_73 rfl rfl rfl ?_
                refine z_iconst (v := (1 : Int32)) dX7_at_74 (by decide) rfl ?_
                refine z_icmp_ne (pt := 87) dX7_at_75 (by decide) rfl (fun c => ?_) (fun c => ?_)
                · have h := zif h c
                  refine z_aload dX7_at_87 rfl rfl ?_
                  refine z_iload_n (i := 2) dX7_at_89 rfl rfl rfl ?_
                  refine z_aload_n (i := 0) dX7_at_90 rfl rfl rfl ?_
                  refine z_getR (q := 65) f_X7_12 i_64 rfl (r_64_0 (zRok_of hRs6 (zRok_of hRs3 (zRok_of hRs1 hR)))) (by decide) dX7_at_91 rfl ?_
                  refine z_callV k_X6_zIn m_X7_177 (zRec_of (i_Th (p_70 a5))) rfl h rfl (Nat.le_of_ble_eq_true rfl) dX7_at_94 zy200 rfl ?_
                  rintro v s8 ⟨r9, rfl, hRs8, h⟩
                  show zt l g (d + 1) M_X7_at 97 [.ref 64, .int p0, .int p1, .int p2, .ref (92 + p0.toNatClampNeg)] [.int r9] s8 _
                  exact z_ret (some (.int r9)) (Or.inr (Or.inl ⟨_, _, rfl, rfl, rfl, dX7_at_97⟩)) zN200 ⟨_, rfl, h⟩
                · have h := zit h c
                  refine z_aload dX7_at_78 rfl rfl ?_
                  refine z_iload_n (i := 2) dX7_at_80 rfl rfl rfl ?_
                  refine z_callV k_X6_yIn m_X7_174 (zRec_of (i_Th (p_70 a5))) rfl h rfl (Nat.le_of_ble_eq_true rfl) dX7_at_81 zy200 rfl ?_
                  rintro v s10 ⟨r11, rfl, hRs10, h⟩
                  show zt l g (d + 1) M_X7_at 84 [.ref 64, .int p0, .int p1, .int p2, .ref (92 + p0.toNatClampNeg)] [.int r11] s10 _
                  refine z_goto (pn := 97) dX7_at_84 (by decide) ?_
                  exact z_ret (some (.int r11)) (Or.inr (Or.inl ⟨_, _, rfl, rfl, rfl, dX7_at_97⟩)) zN200 ⟨_, rfl, h⟩
              · have h := zit h c
                refine z_aload dX7_at_66 rfl rfl ?_
                refine z_iload_n (i := 2) dX7_at_68 rfl rfl rfl ?_
                refine z_callV k_X6_xIn m_X7_171 (zRec_of (i_Th (p_70 a5))) rfl h rfl (Nat.le_of_ble_eq_true rfl) dX7_at_69 zy200 rfl ?_
                rintro v s12 ⟨r13, rfl, hRs12, h⟩
                show zt l g (d + 1) M_X7_at 72 [.ref 64, .int p0, .int p1, .int p2, .ref (92 + p0.toNatClampNeg)] [.int r13] s12 _
                exact z_ret (some (.int r13)) (Or.inr (Or.inl ⟨_, _, rfl, rfl, rfl, dX7_at_72⟩)) zN200 ⟨_, rfl, h⟩
            · have h := zif h (by rw [c]; exact Bool.false_ne_true)
              refine z_ldc (v := (-2147483648 : Int32)) q_X7_163 dX7_at_59 rfl ?_
              exact z_ret (some (.int (-2147483648 : Int32))) (Or.inr (Or.inl ⟨_, _, rfl, rfl, rfl, dX7_at_61⟩)) zN200 ⟨_, rfl, h⟩
          · have h := zit h c
            refine z_aload dX7_at_40 rfl rfl ?_
            refine z_getI (x := s3.1 (92 + p0.toNatClampNeg) 0) rfl f_X7_164 (i_Th (p_70 a5)) rfl dX7_at_42 rfl ?_
            exact z_ret (some (.int (s3.1 (92 + p0.toNatClampNeg) 0))) (Or.inr (Or.inl ⟨_, _, rfl, rfl, rfl, dX7_at_45⟩)) zN200 ⟨_, rfl, h⟩
        · have h := zif h c
          refine z_ldc (v := (-2147483648 : Int32)) q_X7_163 dX7_at_24 rfl ?_
          exact z_ret (some (.int (-2147483648 : Int32))) (Or.inr (Or.inl ⟨_, _, rfl, rfl, rfl, dX7_at_26⟩)) zN200 ⟨_, rfl, h⟩
theorem dX7_seen_0 : decode cX7_seen 0 = .ok (.aload_n 0, 1) := by decide +kernel
theorem dX7_seen_1 : decode cX7_seen 1 = .ok (.iload_n 1, 1) := by decide +kernel
theorem dX7_seen_2 : decode cX7_seen 2 = .ok (.invokevirtual 157, 3) := by decide +kernel
theorem dX7_seen_5 : decode cX7_seen 5 = .ok (.ifCond .eq 29, 3) := by decide +kernel
theorem dX7_seen_8 : decode cX7_seen 8 = .ok (.aload_n 0, 1) := by decide +kernel
theorem dX7_seen_9 : decode cX7_seen 9 = .ok (.iload_n 2, 1) := by decide +kernel
theorem dX7_seen_10 : decode cX7_seen 10 = .ok (.invokevirtual 181, 3) := by decide +kernel
theorem dX7_seen_13 : decode cX7_seen 13 = .ok (.ifCond .eq 21, 3) := by decide +kernel
theorem dX7_seen_16 : decode cX7_seen 16 = .ok (.iload_n 3, 1) := by decide +kernel
theorem dX7_seen_17 : decode cX7_seen 17 = .ok (.invokestatic 160, 3) := by decide +kernel
theorem dX7_seen_20 : decode cX7_seen 20 = .ok (.ifCond .eq 14, 3) := by decide +kernel
theorem dX7_seen_23 : decode cX7_seen 23 = .ok (.iload 4, 2) := by decide +kernel
theorem dX7_seen_25 : decode cX7_seen 25 = .ok (.ifCond .lt 9, 3) := by decide +kernel
theorem dX7_seen_28 : decode cX7_seen 28 = .ok (.iload 4, 2) := by decide +kernel
theorem dX7_seen_30 : decode cX7_seen 30 = .ok (.iconst 3, 1) := by decide +kernel
theorem dX7_seen_31 : decode cX7_seen 31 = .ok (.if_icmp .le 6, 3) := by decide +kernel
theorem dX7_seen_34 : decode cX7_seen 34 = .ok (.ldc 163, 2) := by decide +kernel
theorem dX7_seen_36 : decode cX7_seen 36 = .ok (.ireturn, 1) := by decide +kernel
theorem dX7_seen_37 : decode cX7_seen 37 = .ok (.aload_n 0, 1) := by decide +kernel
theorem dX7_seen_38 : decode cX7_seen 38 = .ok (.getfield 21, 3) := by decide +kernel
theorem dX7_seen_41 : decode cX7_seen 41 = .ok (.aload_n 0, 1) := by decide +kernel
theorem dX7_seen_42 : decode cX7_seen 42 = .ok (.getfield 31, 3) := by decide +kernel
theorem dX7_seen_45 : decode cX7_seen 45 = .ok (.iload_n 1, 1) := by decide +kernel
theorem dX7_seen_46 : decode cX7_seen 46 = .ok (.aaload, 1) := by decide +kernel
theorem dX7_seen_47 : decode cX7_seen 47 = .ok (.aload_n 0, 1) := by decide +kernel
theorem dX7_seen_48 : decode cX7_seen 48 = .ok (.getfield 25, 3) := by decide +kernel
theorem dX7_seen_51 : decode cX7_seen 51 = .ok (.iload_n 2, 1) := by decide +kernel
theorem dX7_seen_52 : decode cX7_seen 52 = .ok (.iaload, 1) := by decide +kernel
theorem dX7_seen_53 : decode cX7_seen 53 = .ok (.iload_n 3, 1) := by decide +kernel
theorem dX7_seen_54 : decode cX7_seen 54 = .ok (.invokevirtual 184, 3) := by decide +kernel
theorem dX7_seen_57 : decode cX7_seen 57 = .ok (.istore 5, 2) := by decide +kernel
theorem dX7_seen_59 : decode cX7_seen 59 = .ok (.iload 4, 2) := by decide +kernel
theorem dX7_seen_61 : decode cX7_seen 61 = .ok (.iconst 2, 1) := by decide +kernel
theorem dX7_seen_62 : decode cX7_seen 62 = .ok (.if_icmp .ne 25, 3) := by decide +kernel
theorem dX7_seen_65 : decode cX7_seen 65 = .ok (.iload 5, 2) := by decide +kernel
theorem dX7_seen_67 : decode cX7_seen 67 = .ok (.ifCond .eq 18, 3) := by decide +kernel
theorem dX7_seen_70 : decode cX7_seen 70 = .ok (.aload_n 0, 1) := by decide +kernel
theorem dX7_seen_71 : decode cX7_seen 71 = .ok (.getfield 21, 3) := by decide +kernel
theorem dX7_seen_74 : decode cX7_seen 74 = .ok (.invokevirtual 188, 3) := by decide +kernel
theorem dX7_seen_77 : decode cX7_seen 77 = .ok (.iconst (-1), 1) := by decide +kernel
theorem dX7_seen_78 : decode cX7_seen 78 = .ok (.if_icmp .ne 7, 3) := by decide +kernel
theorem dX7_seen_81 : decode cX7_seen 81 = .ok (.iconst 1, 1) := by decide +kernel
theorem dX7_seen_82 : decode cX7_seen 82 = .ok (.goto 4, 3) := by decide +kernel
theorem dX7_seen_85 : decode cX7_seen 85 = .ok (.iconst 0, 1) := by decide +kernel
theorem dX7_seen_86 : decode cX7_seen 86 = .ok (.ireturn, 1) := by decide +kernel
theorem dX7_seen_87 : decode cX7_seen 87 = .ok (.iload 5, 2) := by decide +kernel
theorem dX7_seen_89 : decode cX7_seen 89 = .ok (.ifCond .ne 6, 3) := by decide +kernel
theorem dX7_seen_92 : decode cX7_seen 92 = .ok (.ldc 163, 2) := by decide +kernel
theorem dX7_seen_94 : decode cX7_seen 94 = .ok (.ireturn, 1) := by decide +kernel
theorem dX7_seen_95 : decode cX7_seen 95 = .ok (.iload 4, 2) := by decide +kernel
theorem dX7_seen_97 : decode cX7_seen 97 = .ok (.ifCond .ne 11, 3) := by decide +kernel
theorem dX7_seen_100 : decode cX7_seen 100 = .ok (.aload_n 0, 1) := by decide +kernel
theorem dX7_seen_101 : decode cX7_seen 101 = .ok (.getfield 21, 3) := by decide +kernel
theorem dX7_seen_104 : decode cX7_seen 104 = .ok (.getfield 192, 3) := by decide +kernel
theorem dX7_seen_107 : decode cX7_seen 107 = .ok (.ireturn, 1) := by decide +kernel
theorem dX7_seen_108 : decode cX7_seen 108 = .ok (.iload 4, 2) := by decide +kernel
theorem dX7_seen_110 : decode cX7_seen 110 = .ok (.iconst 1, 1) := by decide +kernel
theorem dX7_seen_111 : decode cX7_seen 111 = .ok (.if_icmp .ne 13, 3) := by decide +kernel
theorem dX7_seen_114 : decode cX7_seen 114 = .ok (.aload_n 0, 1) := by decide +kernel
theorem dX7_seen_115 : decode cX7_seen 115 = .ok (.getfield 21, 3) := by decide +kernel
theorem dX7_seen_118 : decode cX7_seen 118 = .ok (.getfield 193, 3) := by decide +kernel
theorem dX7_seen_121 : decode cX7_seen 121 = .ok (.goto 10, 3) := by decide +kernel
theorem dX7_seen_124 : decode cX7_seen 124 = .ok (.aload_n 0, 1) := by decide +kernel
theorem dX7_seen_125 : decode cX7_seen 125 = .ok (.getfield 21, 3) := by decide +kernel
theorem dX7_seen_128 : decode cX7_seen 128 = .ok (.invokevirtual 188, 3) := by decide +kernel
theorem dX7_seen_131 : decode cX7_seen 131 = .ok (.ireturn, 1) := by decide +kernel
set_option maxHeartbeats 4000000 in
set_option maxRecDepth 100000 in
theorem t_X7_seen {l : Launch} {g : zG} {d : Nat} {s : zS} (hR : zRok s) {p0 : Int32} {p1 : Int32} {p2 : Int32} {p3 : Int32} {K : Int32 → zS → Prop} (h : (zc l g d M_X7_isThing [.ref 64, .int p0] s (zKz (fun b2 s1 => s1.2.2.1 = s.2.2.1 ∧ (if b2 = true then (zc l g d M_X7_isSeer [.ref 64, .int p1] s1 (zKz (fun b4 s3 => s3.2.2.1 = s1.2.2.1 ∧ (if b4 = true then (zc l g d M_X7_isMinute [.int p2] s3 (zKz (fun b6 s5 => s5.2.2.1 = s3.2.2.1 ∧ (if b6 = true then (if p3 < 0 then K (-2147483648 : Int32) s5 else (if p3 ≤ (3 : Int32) then (vp_in p0 12 ∧ (vp_in p1 20 ∧ (zc l g d M_X4_look [.ref 68, .ref (92 + p0.toNatClampNeg), .int (s5.1 69 p1.toNatClampNeg), .int p2] s5 (zKz (fun b10 s9 => s9.2.2.1 = s5.2.2.1 ∧ (if p3 = (2 : Int32) then (if b10 = true then (zc l g d M_X4_hidingHill [.ref 68] s9 (zKi (fun r14 s13 => s13.2.2.1 = s9.2.2.1 ∧ (if r14 = (-1 : Int32) then K (1 : Int32) s13 else K (0 : Int32) s13)))) else K (0 : Int32) s9) else (if b10 = true then (if p3 = 0 then K (s9.1 68 1) s9 else (if p3 = (1 : Int32) then K (s9.1 68 2) s9 else (zc l g d M_X4_hidingHill [.ref 68] s9 (zKi (fun r12 s11 => s11.2.2.1 = s9.2.2.1 ∧ K r12 s11))))) else K (-2147483648 : Int32) s9))))))) else K (-2147483648 : Int32) s5)) else K (-2147483648 : Int32) s5)))) else K (-2147483648 : Int32) s3)))) else K (-2147483648 : Int32) s1))))) : zc l g (d + 1) M_X7_seen [.ref 64, .int p0, .int p1, .int p2, .int p3] s (zKi K) := by
  refine zCall_of k_X7_seen (Nat.le_of_ble_eq_true rfl) (Nat.le_refl _) (fun _ => ?_)
  show zt l g (d + 1) M_X7_seen 0 [.ref 64, .int p0, .int p1, .int p2, .int p3, zJ] [] s (zKi K)
  refine z_aload_n (i := 0) dX7_seen_0 rfl rfl rfl ?_
  refine z_iload_n (i := 1) dX7_seen_1 rfl rfl rfl ?_
  refine z_callV k_X7_isThing m_X7_157 (zRec_of i_64) rfl h rfl (Nat.le_of_ble_eq_true rfl) dX7_seen_2 zy200 rfl ?_
  rintro v s1 ⟨b2, rfl, hRs1, h⟩
  show zt l g (d + 1) M_X7_seen 5 [.ref 64, .int p0, .int p1, .int p2, .int p3, zJ] [.int (zb b2)] s1 _
  refine z_ifb_eq (pt := 34) dX7_seen_5 (by decide) rfl (fun c => ?_) (fun c => ?_)
  · have h := zif h (by rw [c]; exact Bool.false_ne_true)
    refine z_ldc (v := (-2147483648 : Int32)) q_X7_163 dX7_seen_34 rfl ?_
    exact z_ret (some (.int (-2147483648 : Int32))) (Or.inr (Or.inl ⟨_, _, rfl, rfl, rfl, dX7_seen_36⟩)) zN200 ⟨_, rfl, h⟩
  · have h := zit h c
    refine z_aload_n (i := 0) dX7_seen_8 rfl rfl rfl ?_
    refine z_iload_n (i := 2) dX7_seen_9 rfl rfl rfl ?_
    refine z_callV k_X7_isSeer m_X7_181 (zRec_of i_64) rfl h rfl (Nat.le_of_ble_eq_true rfl) dX7_seen_10 zy200 rfl ?_
    rintro v s3 ⟨b4, rfl, hRs3, h⟩
    show zt l g (d + 1) M_X7_seen 13 [.ref 64, .int p0, .int p1, .int p2, .int p3, zJ] [.int (zb b4)] s3 _
    refine z_ifb_eq (pt := 34) dX7_seen_13 (by decide) rfl (fun c => ?_) (fun c => ?_)
    · have h := zif h (by rw [c]; exact Bool.false_ne_true)
      refine z_ldc (v := (-2147483648 : Int32)) q_X7_163 dX7_seen_34 rfl ?_
      exact z_ret (some (.int (-2147483648 : Int32))) (Or.inr (Or.inl ⟨_, _, rfl, rfl, rfl, dX7_seen_36⟩)) zN200 ⟨_, rfl, h⟩
    · have h := zit h c
      refine z_iload_n (i := 3) dX7_seen_16 rfl rfl rfl ?_
      refine z_callS (as := [.int p2]) k_X7_isMinute m_X7_160 rfl h rfl (Nat.le_of_ble_eq_true rfl) dX7_seen_17 zy200 rfl ?_
      rintro v s5 ⟨b6, rfl, hRs5, h⟩
      show zt l g (d + 1) M_X7_seen 20 [.ref 64, .int p0, .int p1, .int p2, .int p3, zJ] [.int (zb b6)] s5 _
      refine z_ifb_eq (pt := 34) dX7_seen_20 (by decide) rfl (fun c => ?_) (fun c => ?_)
      · have h := zif h (by rw [c]; exact Bool.false_ne_true)
        refine z_ldc (v := (-2147483648 : Int32)) q_X7_163 dX7_seen_34 rfl ?_
        exact z_ret (some (.int (-2147483648 : Int32))) (Or.inr (Or.inl ⟨_, _, rfl, rfl, rfl, dX7_seen_36⟩)) zN200 ⟨_, rfl, h⟩
      · have h := zit h c
        refine z_iload dX7_seen_23 rfl rfl ?_
        refine z_if_lt (pt := 34) dX7_seen_25 (by decide) rfl (fun c => ?_) (fun c => ?_)
        · have h := zit h c
          refine z_ldc (v := (-2147483648 : Int32)) q_X7_163 dX7_seen_34 rfl ?_
          exact z_ret (some (.int (-2147483648 : Int32))) (Or.inr (Or.inl ⟨_, _, rfl, rfl, rfl, dX7_seen_36⟩)) zN200 ⟨_, rfl, h⟩
        · have h := zif h c
          refine z_iload dX7_seen_28 rfl rfl ?_
          refine z_iconst (v := (3 : Int32)) dX7_seen_30 (by decide) rfl ?_
          refine z_icmp_le (pt := 37) dX7_seen_31 (by decide) rfl (fun c => ?_) (fun c => ?_)
          · have h := zit h c
            refine z_aload_n (i := 0) dX7_seen_37 rfl rfl rfl ?_
            refine z_getR (q := 68) f_X7_21 i_64 rfl (r_64_1 (zRok_of hRs5 (zRok_of hRs3 (zRok_of hRs1 hR)))) (by decide) dX7_seen_38 rfl ?_
            refine z_aload_n (i := 0) dX7_seen_41 rfl rfl rfl ?_
            refine z_getR (q := 70) f_X7_31 i_64 rfl (r_64_4 (zRok_of hRs5 (zRok_of hRs3 (zRok_of hRs1 hR)))) (by decide) dX7_seen_42 rfl ?_
            refine z_iload_n (i := 1) dX7_seen_45 rfl rfl rfl ?_
            obtain ⟨a7, h⟩ := h
            have wa7 := vin a7
            refine z_aald (q := 92 + p0.toNatClampNeg) (by decide) a_70 a7 (r_70 (zRok_of hRs5 (zRok_of hRs3 (zRok_of hRs1 hR))) a7) (by omega) dX7_seen_46 rfl ?_
            refine z_aload_n (i := 0) dX7_seen_47 rfl rfl rfl ?_
            refine z_getR (q := 69) f_X7_25 i_64 rfl (r_64_2 (zRok_of hRs5 (zRok_of hRs3 (zRok_of hRs1 hR)))) (by decide) dX7_seen_48 rfl ?_
            refine z_iload_n (i := 2) dX7_seen_51 rfl rfl rfl ?_
            obtain ⟨a8, h⟩ := h
            have wa8 := vin a8
            refine z_iald (x := s5.1 69 p1.toNatClampNeg) rfl a_69 a8 dX7_seen_52 rfl ?_
            refine z_iload_n (i := 3) dX7_seen_53 rfl rfl rfl ?_
            refine z_callV k_X4_look m_X7_184 (zRec_of i_68) rfl h rfl (Nat.le_of_ble_eq_true rfl) dX7_seen_54 zy200 rfl ?_
            rintro v s9 ⟨b10, rfl, hRs9, h⟩
            show zt l g (d + 1) M_X7_seen 57 [.ref 64, .int p0, .int p1, .int p2, .int p3, zJ] [.int (zb b10)] s9 _
            refine z_istore dX7_seen_57 (by decide) (zokd rfl) rfl ?_
            show zt l g (d + 1) M_X7_seen 59 [.ref 64, .int p0, .int p1, .int p2, .int p3, .int (zb b10)] [] s9 _
            refine z_iload dX7_seen_59 rfl rfl ?_
            refine z_iconst (v := (2 : Int32)) dX7_seen_61 (by decide) rfl ?_
            refine z_icmp_ne (pt := 87) dX7_seen_62 (by decide) rfl (fun c => ?_) (fun c => ?_)
            · have h := zif h c
              refine z_iload dX7_seen_87 rfl rfl ?_
              refine z_ifb_ne (pt := 95) dX7_seen_89 (by decide) rfl (fun c => ?_) (fun c => ?_)
              · have h := zit h c
                refine z_iload dX7_seen_95 rfl rfl ?_
                refine z_if_ne (pt := 108) dX7_seen_97 (by decide) rfl (fun c => ?_) (fun c => ?_)
                · have h := zif h c
                  refine z_iload dX7_seen_108 rfl rfl ?_
                  refine z_iconst (v := (1 : Int32)) dX7_seen_110 (by decide) rfl ?_
                  refine z_icmp_ne (pt := 124) dX7_seen_111 (by decide) rfl (fun c => ?_) (fun c => ?_)
                  · have h := zif h c
                    refine z_aload_n (i := 0) dX7_seen_124 rfl rfl rfl ?_
                    refine z_getR (q := 68) f_X7_21 i_64 rfl (r_64_1 (zRok_of hRs9 (zRok_of hRs5 (zRok_of hRs3 (zRok_of hRs1 hR))))) (by decide) dX7_seen_125 rfl ?_
                    refine z_callV k_X4_hidingHill m_X7_188 (zRec_of i_68) rfl h rfl (Nat.le_of_ble_eq_true rfl) dX7_seen_128 zy200 rfl ?_
                    rintro v s11 ⟨r12, rfl, hRs11, h⟩
                    show zt l g (d + 1) M_X7_seen 131 [.ref 64, .int p0, .int p1, .int p2, .int p3, .int (zb b10)] [.int r12] s11 _
                    exact z_ret (some (.int r12)) (Or.inr (Or.inl ⟨_, _, rfl, rfl, rfl, dX7_seen_131⟩)) zN200 ⟨_, rfl, h⟩
                  · have h := zit h c
                    refine z_aload_n (i := 0) dX7_seen_114 rfl rfl rfl ?_
                    refine z_getR (q := 68) f_X7_21 i_64 rfl (r_64_1 (zRok_of hRs9 (zRok_of hRs5 (zRok_of hRs3 (zRok_of hRs1 hR))))) (by decide) dX7_seen_115 rfl ?_
                    refine z_getI (x := s9.1 68 2) rfl f_X7_193 i_68 rfl dX7_seen_118 rfl ?_
                    refine z_goto (pn := 131) dX7_seen_121 (by decide) ?_
                    exact z_ret (some (.int (s9.1 68 2))) (Or.inr (Or.inl ⟨_, _, rfl, rfl, rfl, dX7_seen_131⟩)) zN200 ⟨_, rfl, h⟩
                · have h := zit h c
                  refine z_aload_n (i := 0) dX7_seen_100 rfl rfl rfl ?_
                  refine z_getR (q := 68) f_X7_21 i_64 rfl (r_64_1 (zRok_of hRs9 (zRok_of hRs5 (zRok_of hRs3 (zRok_of hRs1 hR))))) (by decide) dX7_seen_101 rfl ?_
                  refine z_getI (x := s9.1 68 1) rfl f_X7_192 i_68 rfl dX7_seen_104 rfl ?_
                  exact z_ret (some (.int (s9.1 68 1))) (Or.inr (Or.inl ⟨_, _, rfl, rfl, rfl, dX7_seen_107⟩)) zN200 ⟨_, rfl, h⟩
              · have h := zif h (by rw [c]; exact Bool.false_ne_true)
                refine z_ldc (v := (-2147483648 : Int32)) q_X7_163 dX7_seen_92 rfl ?_
                exact z_ret (some (.int (-2147483648 : Int32))) (Or.inr (Or.inl ⟨_, _, rfl, rfl, rfl, dX7_seen_94⟩)) zN200 ⟨_, rfl, h⟩
            · have h := zit h c
              refine z_iload dX7_seen_65 rfl rfl ?_
              refine z_ifb_eq (pt := 85) dX7_seen_67 (by decide) rfl (fun c => ?_) (fun c => ?_)
              · have h := zif h (by rw [c]; exact Bool.false_ne_true)
                refine z_iconst (v := (0 : Int32)) dX7_seen_85 (by decide) rfl ?_
                exact z_ret (some (.int (0 : Int32))) (Or.inr (Or.inl ⟨_, _, rfl, rfl, rfl, dX7_seen_86⟩)) zN200 ⟨_, rfl, h⟩
              · have h := zit h c
                refine z_aload_n (i := 0) dX7_seen_70 rfl rfl rfl ?_
                refine z_getR (q := 68) f_X7_21 i_64 rfl (r_64_1 (zRok_of hRs9 (zRok_of hRs5 (zRok_of hRs3 (zRok_of hRs1 hR))))) (by decide) dX7_seen_71 rfl ?_
                refine z_callV k_X4_hidingHill m_X7_188 (zRec_of i_68) rfl h rfl (Nat.le_of_ble_eq_true rfl) dX7_seen_74 zy200 rfl ?_
                rintro v s13 ⟨r14, rfl, hRs13, h⟩
                show zt l g (d + 1) M_X7_seen 77 [.ref 64, .int p0, .int p1, .int p2, .int p3, .int (zb b10)] [.int r14] s13 _
                refine z_iconst (v := (-1 : Int32)) dX7_seen_77 (by decide) rfl ?_
                refine z_icmp_ne (pt := 85) dX7_seen_78 (by decide) rfl (fun c => ?_) (fun c => ?_)
                · have h := zif h c
                  refine z_iconst (v := (0 : Int32)) dX7_seen_85 (by decide) rfl ?_
                  exact z_ret (some (.int (0 : Int32))) (Or.inr (Or.inl ⟨_, _, rfl, rfl, rfl, dX7_seen_86⟩)) zN200 ⟨_, rfl, h⟩
                · have h := zit h c
                  refine z_iconst (v := (1 : Int32)) dX7_seen_81 (by decide) rfl ?_
                  refine z_goto (pn := 86) dX7_seen_82 (by decide) ?_
                  exact z_ret (some (.int (1 : Int32))) (Or.inr (Or.inl ⟨_, _, rfl, rfl, rfl, dX7_seen_86⟩)) zN200 ⟨_, rfl, h⟩
          · have h := zif h c
            refine z_ldc (v := (-2147483648 : Int32)) q_X7_163 dX7_seen_34 rfl ?_
            exact z_ret (some (.int (-2147483648 : Int32))) (Or.inr (Or.inl ⟨_, _, rfl, rfl, rfl, dX7_seen_36⟩)) zN200 ⟨_, rfl, h⟩
theorem dX7_tell_0 : decode cX7_tell 0 = .ok (.aload_n 0, 1) := by decide +kernel
theorem dX7_tell_1 : decode cX7_tell 1 = .ok (.iload_n 1, 1) := by decide +kernel
theorem dX7_tell_2 : decode cX7_tell 2 = .ok (.invokevirtual 181, 3) := by decide +kernel
theorem dX7_tell_5 : decode cX7_tell 5 = .ok (.ifCond .eq 42, 3) := by decide +kernel
theorem dX7_tell_8 : decode cX7_tell 8 = .ok (.iload_n 2, 1) := by decide +kernel
theorem dX7_tell_9 : decode cX7_tell 9 = .ok (.invokestatic 123, 3) := by decide +kernel
theorem dX7_tell_12 : decode cX7_tell 12 = .ok (.ifCond .eq 35, 3) := by decide +kernel
theorem dX7_tell_15 : decode cX7_tell 15 = .ok (.iload_n 3, 1) := by decide +kernel
theorem dX7_tell_16 : decode cX7_tell 16 = .ok (.invokestatic 194, 3) := by decide +kernel
theorem dX7_tell_19 : decode cX7_tell 19 = .ok (.ifCond .eq 28, 3) := by decide +kernel
theorem dX7_tell_22 : decode cX7_tell 22 = .ok (.iload 4, 2) := by decide +kernel
theorem dX7_tell_24 : decode cX7_tell 24 = .ok (.invokestatic 194, 3) := by decide +kernel
theorem dX7_tell_27 : decode cX7_tell 27 = .ok (.ifCond .eq 20, 3) := by decide +kernel
theorem dX7_tell_30 : decode cX7_tell 30 = .ok (.iload 5, 2) := by decide +kernel
theorem dX7_tell_32 : decode cX7_tell 32 = .ok (.invokestatic 197, 3) := by decide +kernel
theorem dX7_tell_35 : decode cX7_tell 35 = .ok (.ifCond .eq 12, 3) := by decide +kernel
theorem dX7_tell_38 : decode cX7_tell 38 = .ok (.aload_n 0, 1) := by decide +kernel
theorem dX7_tell_39 : decode cX7_tell 39 = .ok (.getfield 200, 3) := by decide +kernel
theorem dX7_tell_42 : decode cX7_tell 42 = .ok (.bipush 60, 2) := by decide +kernel
theorem dX7_tell_44 : decode cX7_tell 44 = .ok (.if_icmp .lt 5, 3) := by decide +kernel
theorem dX7_tell_47 : decode cX7_tell 47 = .ok (.iconst (-1), 1) := by decide +kernel
theorem dX7_tell_48 : decode cX7_tell 48 = .ok (.ireturn, 1) := by decide +kernel
theorem dX7_tell_49 : decode cX7_tell 49 = .ok (.aload_n 0, 1) := by decide +kernel
theorem dX7_tell_50 : decode cX7_tell 50 = .ok (.getfield 37, 3) := by decide +kernel
theorem dX7_tell_53 : decode cX7_tell 53 = .ok (.aload_n 0, 1) := by decide +kernel
theorem dX7_tell_54 : decode cX7_tell 54 = .ok (.getfield 200, 3) := by decide +kernel
theorem dX7_tell_57 : decode cX7_tell 57 = .ok (.aaload, 1) := by decide +kernel
theorem dX7_tell_58 : decode cX7_tell 58 = .ok (.astore 6, 2) := by decide +kernel
theorem dX7_tell_60 : decode cX7_tell 60 = .ok (.aload 6, 2) := by decide +kernel
theorem dX7_tell_62 : decode cX7_tell 62 = .ok (.iload_n 1, 1) := by decide +kernel
theorem dX7_tell_63 : decode cX7_tell 63 = .ok (.putfield 203, 3) := by decide +kernel
theorem dX7_tell_66 : decode cX7_tell 66 = .ok (.aload 6, 2) := by decide +kernel
theorem dX7_tell_68 : decode cX7_tell 68 = .ok (.iload_n 2, 1) := by decide +kernel
theorem dX7_tell_69 : decode cX7_tell 69 = .ok (.sipush 1000, 3) := by decide +kernel
theorem dX7_tell_72 : decode cX7_tell 72 = .ok (.idiv, 1) := by decide +kernel
theorem dX7_tell_73 : decode cX7_tell 73 = .ok (.putfield 206, 3) := by decide +kernel
theorem dX7_tell_76 : decode cX7_tell 76 = .ok (.aload 6, 2) := by decide +kernel
theorem dX7_tell_78 : decode cX7_tell 78 = .ok (.iload_n 2, 1) := by decide +kernel
theorem dX7_tell_79 : decode cX7_tell 79 = .ok (.sipush 1000, 3) := by decide +kernel
theorem dX7_tell_82 : decode cX7_tell 82 = .ok (.irem, 1) := by decide +kernel
theorem dX7_tell_83 : decode cX7_tell 83 = .ok (.putfield 209, 3) := by decide +kernel
theorem dX7_tell_86 : decode cX7_tell 86 = .ok (.aload 6, 2) := by decide +kernel
theorem dX7_tell_88 : decode cX7_tell 88 = .ok (.iload_n 3, 1) := by decide +kernel
theorem dX7_tell_89 : decode cX7_tell 89 = .ok (.sipush 1000, 3) := by decide +kernel
theorem dX7_tell_92 : decode cX7_tell 92 = .ok (.idiv, 1) := by decide +kernel
theorem dX7_tell_93 : decode cX7_tell 93 = .ok (.putfield 212, 3) := by decide +kernel
theorem dX7_tell_96 : decode cX7_tell 96 = .ok (.aload 6, 2) := by decide +kernel
theorem dX7_tell_98 : decode cX7_tell 98 = .ok (.iload_n 3, 1) := by decide +kernel
theorem dX7_tell_99 : decode cX7_tell 99 = .ok (.sipush 1000, 3) := by decide +kernel
theorem dX7_tell_102 : decode cX7_tell 102 = .ok (.irem, 1) := by decide +kernel
theorem dX7_tell_103 : decode cX7_tell 103 = .ok (.putfield 215, 3) := by decide +kernel
theorem dX7_tell_106 : decode cX7_tell 106 = .ok (.aload 6, 2) := by decide +kernel
theorem dX7_tell_108 : decode cX7_tell 108 = .ok (.iload 4, 2) := by decide +kernel
theorem dX7_tell_110 : decode cX7_tell 110 = .ok (.sipush 1000, 3) := by decide +kernel
theorem dX7_tell_113 : decode cX7_tell 113 = .ok (.idiv, 1) := by decide +kernel
theorem dX7_tell_114 : decode cX7_tell 114 = .ok (.putfield 218, 3) := by decide +kernel
theorem dX7_tell_117 : decode cX7_tell 117 = .ok (.aload 6, 2) := by decide +kernel
theorem dX7_tell_119 : decode cX7_tell 119 = .ok (.iload 4, 2) := by decide +kernel
theorem dX7_tell_121 : decode cX7_tell 121 = .ok (.sipush 1000, 3) := by decide +kernel
theorem dX7_tell_124 : decode cX7_tell 124 = .ok (.irem, 1) := by decide +kernel
theorem dX7_tell_125 : decode cX7_tell 125 = .ok (.putfield 221, 3) := by decide +kernel
theorem dX7_tell_128 : decode cX7_tell 128 = .ok (.aload 6, 2) := by decide +kernel
theorem dX7_tell_130 : decode cX7_tell 130 = .ok (.iload 5, 2) := by decide +kernel
theorem dX7_tell_132 : decode cX7_tell 132 = .ok (.bipush 10, 2) := by decide +kernel
theorem dX7_tell_134 : decode cX7_tell 134 = .ok (.irem, 1) := by decide +kernel
theorem dX7_tell_135 : decode cX7_tell 135 = .ok (.putfield 224, 3) := by decide +kernel
theorem dX7_tell_138 : decode cX7_tell 138 = .ok (.aload 6, 2) := by decide +kernel
theorem dX7_tell_140 : decode cX7_tell 140 = .ok (.iload 5, 2) := by decide +kernel
theorem dX7_tell_142 : decode cX7_tell 142 = .ok (.bipush 10, 2) := by decide +kernel
theorem dX7_tell_144 : decode cX7_tell 144 = .ok (.idiv, 1) := by decide +kernel
theorem dX7_tell_145 : decode cX7_tell 145 = .ok (.putfield 227, 3) := by decide +kernel
theorem dX7_tell_148 : decode cX7_tell 148 = .ok (.aload 6, 2) := by decide +kernel
theorem dX7_tell_150 : decode cX7_tell 150 = .ok (.iconst 0, 1) := by decide +kernel
theorem dX7_tell_151 : decode cX7_tell 151 = .ok (.putfield 230, 3) := by decide +kernel
theorem dX7_tell_154 : decode cX7_tell 154 = .ok (.aload 6, 2) := by decide +kernel
theorem dX7_tell_156 : decode cX7_tell 156 = .ok (.iconst 0, 1) := by decide +kernel
theorem dX7_tell_157 : decode cX7_tell 157 = .ok (.putfield 233, 3) := by decide +kernel
theorem dX7_tell_160 : decode cX7_tell 160 = .ok (.aload_n 0, 1) := by decide +kernel
theorem dX7_tell_161 : decode cX7_tell 161 = .ok (.dup, 1) := by decide +kernel
theorem dX7_tell_162 : decode cX7_tell 162 = .ok (.getfield 200, 3) := by decide +kernel
theorem dX7_tell_165 : decode cX7_tell 165 = .ok (.dup_x1, 1) := by decide +kernel
theorem dX7_tell_166 : decode cX7_tell 166 = .ok (.iconst 1, 1) := by decide +kernel
theorem dX7_tell_167 : decode cX7_tell 167 = .ok (.iadd, 1) := by decide +kernel
theorem dX7_tell_168 : decode cX7_tell 168 = .ok (.putfield 200, 3) := by decide +kernel
theorem dX7_tell_171 : decode cX7_tell 171 = .ok (.ireturn, 1) := by decide +kernel
set_option maxHeartbeats 4000000 in
set_option maxRecDepth 100000 in
theorem t_X7_tell {l : Launch} {g : zG} {d : Nat} {s : zS} (hR : zRok s) {p0 : Int32} {p1 : Int32} {p2 : Int32} {p3 : Int32} {p4 : Int32} {K : Int32 → zS → Prop} (h : (zc l g d M_X7_isSeer [.ref 64, .int p0] s (zKz (fun b2 s1 => s1.2.2.1 = s.2.2.1 ∧ (if b2 = true then (zc l g d M_X7_isSpan [.int p1] s1 (zKz (fun b4 s3 => s3.2.2.1 = s1.2.2.1 ∧ (if b4 = true then (zc l g d M_X7_isDirection [.int p2] s3 (zKz (fun b6 s5 => s5.2.2.1 = s3.2.2.1 ∧ (if b6 = true then (zc l g d M_X7_isDirection [.int p3] s5 (zKz (fun b8 s7 => s7.2.2.1 = s5.2.2.1 ∧ (if b8 = true then (zc l g d M_X7_isLightsAndHull [.int p4] s7 (zKz (fun b10 s9 => s9.2.2.1 = s7.2.2.1 ∧ (if b10 = true then (if (s9.1 64 7) < (60 : Int32) then (vp_in (s9.1 64 7) 60 ∧ K (s9.1 64 7) (zI (zI (zI (zI (zI (zI (zI (zI (zI (zI (zI (zI s9 (104 + (s9.1 64 7).toNatClampNeg) 0 p0) (104 + (s9.1 64 7).toNatClampNeg) 1 (p1 / (1000 : Int32))) (104 + (s9.1 64 7).toNatClampNeg) 2 (p1 % (1000 : Int32))) (104 + (s9.1 64 7).toNatClampNeg) 3 (p2 / (1000 : Int32))) (104 + (s9.1 64 7).toNatClampNeg) 4 (p2 % (1000 : Int32))) (104 + (s9.1 64 7).toNatClampNeg) 5 (p3 / (1000 : Int32))) (104 + (s9.1 64 7).toNatClampNeg) 6 (p3 % (1000 : Int32))) (104 + (s9.1 64 7).toNatClampNeg) 7 (p4 % (10 : Int32))) (104 + (s9.1 64 7).toNatClampNeg) 8 (p4 / (10 : Int32))) (104 + (s9.1 64 7).toNatClampNeg) 10 (0 : Int32)) (104 + (s9.1 64 7).toNatClampNeg) 13 (0 : Int32)) 64 7 ((s9.1 64 7) + (1 : Int32)))) else K (-1 : Int32) s9) else K (-1 : Int32) s9)))) else K (-1 : Int32) s7)))) else K (-1 : Int32) s5)))) else K (-1 : Int32) s3)))) else K (-1 : Int32) s1))))) : zc l g (d + 1) M_X7_tell [.ref 64, .int p0, .int p1, .int p2, .int p3, .int p4] s (zKi K) := by
  refine zCall_of k_X7_tell (Nat.le_of_ble_eq_true rfl) (Nat.le_refl _) (fun _ => ?_)
  show zt l g (d + 1) M_X7_tell 0 [.ref 64, .int p0, .int p1, .int p2, .int p3, .int p4, zJ] [] s (zKi K)
  refine z_aload_n (i := 0) dX7_tell_0 rfl rfl rfl ?_
  refine z_iload_n (i := 1) dX7_tell_1 rfl rfl rfl ?_
  refine z_callV k_X7_isSeer m_X7_181 (zRec_of i_64) rfl h rfl (Nat.le_of_ble_eq_true rfl) dX7_tell_2 zy200 rfl ?_
  rintro v s1 ⟨b2, rfl, hRs1, h⟩
  show zt l g (d + 1) M_X7_tell 5 [.ref 64, .int p0, .int p1, .int p2, .int p3, .int p4, zJ] [.int (zb b2)] s1 _
  refine z_ifb_eq (pt := 47) dX7_tell_5 (by decide) rfl (fun c => ?_) (fun c => ?_)
  · have h := zif h (by rw [c]; exact Bool.false_ne_true)
    refine z_iconst (v := (-1 : Int32)) dX7_tell_47 (by decide) rfl ?_
    exact z_ret (some (.int (-1 : Int32))) (Or.inr (Or.inl ⟨_, _, rfl, rfl, rfl, dX7_tell_48⟩)) zN200 ⟨_, rfl, h⟩
  · have h := zit h c
    refine z_iload_n (i := 2) dX7_tell_8 rfl rfl rfl ?_
    refine z_callS (as := [.int p1]) k_X7_isSpan m_X7_123 rfl h rfl (Nat.le_of_ble_eq_true rfl) dX7_tell_9 zy200 rfl ?_
    rintro v s3 ⟨b4, rfl, hRs3, h⟩
    show zt l g (d + 1) M_X7_tell 12 [.ref 64, .int p0, .int p1, .int p2, .int p3, .int p4, zJ] [.int (zb b4)] s3 _
    refine z_ifb_eq (pt := 47) dX7_tell_12 (by decide) rfl (fun c => ?_) (fun c => ?_)
    · have h := zif h (by rw [c]; exact Bool.false_ne_true)
      refine z_iconst (v := (-1 : Int32)) dX7_tell_47 (by decide) rfl ?_
      exact z_ret (some (.int (-1 : Int32))) (Or.inr (Or.inl ⟨_, _, rfl, rfl, rfl, dX7_tell_48⟩)) zN200 ⟨_, rfl, h⟩
    · have h := zit h c
      refine z_iload_n (i := 3) dX7_tell_15 rfl rfl rfl ?_
      refine z_callS (as := [.int p2]) k_X7_isDirection m_X7_194 rfl h rfl (Nat.le_of_ble_eq_true rfl) dX7_tell_16 zy200 rfl ?_
      rintro v s5 ⟨b6, rfl, hRs5, h⟩
      show zt l g (d + 1) M_X7_tell 19 [.ref 64, .int p0, .int p1, .int p2, .int p3, .int p4, zJ] [.int (zb b6)] s5 _
      refine z_ifb_eq (pt := 47) dX7_tell_19 (by decide) rfl (fun c => ?_) (fun c => ?_)
      · have h := zif h (by rw [c]; exact Bool.false_ne_true)
        refine z_iconst (v := (-1 : Int32)) dX7_tell_47 (by decide) rfl ?_
        exact z_ret (some (.int (-1 : Int32))) (Or.inr (Or.inl ⟨_, _, rfl, rfl, rfl, dX7_tell_48⟩)) zN200 ⟨_, rfl, h⟩
      · have h := zit h c
        refine z_iload dX7_tell_22 rfl rfl ?_
        refine z_callS (as := [.int p3]) k_X7_isDirection m_X7_194 rfl h rfl (Nat.le_of_ble_eq_true rfl) dX7_tell_24 zy200 rfl ?_
        rintro v s7 ⟨b8, rfl, hRs7, h⟩
        show zt l g (d + 1) M_X7_tell 27 [.ref 64, .int p0, .int p1, .int p2, .int p3, .int p4, zJ] [.int (zb b8)] s7 _
        refine z_ifb_eq (pt := 47) dX7_tell_27 (by decide) rfl (fun c => ?_) (fun c => ?_)
        · have h := zif h (by rw [c]; exact Bool.false_ne_true)
          refine z_iconst (v := (-1 : Int32)) dX7_tell_47 (by decide) rfl ?_
          exact z_ret (some (.int (-1 : Int32))) (Or.inr (Or.inl ⟨_, _, rfl, rfl, rfl, dX7_tell_48⟩)) zN200 ⟨_, rfl, h⟩
        · have h := zit h c
          refine z_iload dX7_tell_30 rfl rfl ?_
          refine z_callS (as := [.int p4]) k_X7_isLightsAndHull m_X7_197 rfl h rfl (Nat.le_of_ble_eq_true rfl) dX7_tell_32 zy200 rfl ?_
          rintro v s9 ⟨b10, rfl, hRs9, h⟩
          show zt l g (d + 1) M_X7_tell 35 [.ref 64, .int p0, .int p1, .int p2, .int p3, .int p4, zJ] [.int (zb b10)] s9 _
          refine z_ifb_eq (pt := 47) dX7_tell_35 (by decide) rfl (fun c => ?_) (fun c => ?_)
          · have h := zif h (by rw [c]; exact Bool.false_ne_true)
            refine z_iconst (v := (-1 : Int32)) dX7_tell_47 (by decide) rfl ?_
            exact z_ret (some (.int (-1 : Int32))) (Or.inr (Or.inl ⟨_, _, rfl, rfl, rfl, dX7_tell_48⟩)) zN200 ⟨_, rfl, h⟩
          · have h := zit h c
            refine z_aload_n (i := 0) dX7_tell_38 rfl rfl rfl ?_
            refine z_getI (x := s9.1 64 7) rfl f_X7_200 i_64 rfl dX7_tell_39 rfl ?_
            refine z_bipush (v := (60 : Int32)) dX7_tell_42 (by decide) rfl ?_
            refine z_icmp_lt (pt := 49) dX7_tell_44 (by decide) rfl (fun c => ?_) (fun c => ?_)
            · have h := zit h c
              refine z_aload_n (i := 0) dX7_tell_49 rfl rfl rfl ?_
              refine z_getR (q := 71) f_X7_37 i_64 rfl (r_64_6 (zRok_of hRs9 (zRok_of hRs7 (zRok_of hRs5 (zRok_of hRs3 (zRok_of hRs1 hR)))))) (by decide) dX7_tell_50 rfl ?_
              refine z_aload_n (i := 0) dX7_tell_53 rfl rfl rfl ?_
              refine z_getI (x := s9.1 64 7) rfl f_X7_200 i_64 rfl dX7_tell_54 rfl ?_
              obtain ⟨a11, h⟩ := h
              have wa11 := vin a11
              refine z_aald (q := 104 + (s9.1 64 7).toNatClampNeg) (by decide) a_71 a11 (r_71 (zRok_of hRs9 (zRok_of hRs7 (zRok_of hRs5 (zRok_of hRs3 (zRok_of hRs1 hR))))) a11) (by omega) dX7_tell_57 rfl ?_
              refine z_astore dX7_tell_58 (by decide) (zokd rfl) rfl ?_
              show zt l g (d + 1) M_X7_tell 60 [.ref 64, .int p0, .int p1, .int p2, .int p3, .int p4, .ref (104 + (s9.1 64 7).toNatClampNeg)] [] s9 _
              refine z_aload dX7_tell_60 rfl rfl ?_
              refine z_iload_n (i := 1) dX7_tell_62 rfl rfl rfl ?_
              refine z_putI f_X7_203 (i_Te (p_71 a11)) rfl (Or.inl rfl) rfl rfl dX7_tell_63 rfl ?_
              refine z_aload dX7_tell_66 rfl rfl ?_
              refine z_iload_n (i := 2) dX7_tell_68 rfl rfl rfl ?_
              refine z_sipush (v := (1000 : Int32)) dX7_tell_69 (by decide) rfl ?_
              refine z_idiv dX7_tell_72 (by decide) rfl ?_
              refine z_putI f_X7_206 (i_Te (p_71 a11)) rfl (Or.inl rfl) rfl rfl dX7_tell_73 rfl ?_
              refine z_aload dX7_tell_76 rfl rfl ?_
              refine z_iload_n (i := 2) dX7_tell_78 rfl rfl rfl ?_
              refine z_sipush (v := (1000 : Int32)) dX7_tell_79 (by decide) rfl ?_
              refine z_irem dX7_tell_82 (by decide) rfl ?_
              refine z_putI f_X7_209 (i_Te (p_71 a11)) rfl (Or.inl rfl) rfl rfl dX7_tell_83 rfl ?_
              refine z_aload dX7_tell_86 rfl rfl ?_
              refine z_iload_n (i := 3) dX7_tell_88 rfl rfl rfl ?_
              refine z_sipush (v := (1000 : Int32)) dX7_tell_89 (by decide) rfl ?_
              refine z_idiv dX7_tell_92 (by decide) rfl ?_
              refine z_putI f_X7_212 (i_Te (p_71 a11)) rfl (Or.inl rfl) rfl rfl dX7_tell_93 rfl ?_
              refine z_aload dX7_tell_96 rfl rfl ?_
              refine z_iload_n (i := 3) dX7_tell_98 rfl rfl rfl ?_
              refine z_sipush (v := (1000 : Int32)) dX7_tell_99 (by decide) rfl ?_
              refine z_irem dX7_tell_102 (by decide) rfl ?_
              refine z_putI f_X7_215 (i_Te (p_71 a11)) rfl (Or.inl rfl) rfl rfl dX7_tell_103 rfl ?_
              refine z_aload dX7_tell_106 rfl rfl ?_
              refine z_iload dX7_tell_108 rfl rfl ?_
              refine z_sipush (v := (1000 : Int32)) dX7_tell_110 (by decide) rfl ?_
              refine z_idiv dX7_tell_113 (by decide) rfl ?_
              refine z_putI f_X7_218 (i_Te (p_71 a11)) rfl (Or.inl rfl) rfl rfl dX7_tell_114 rfl ?_
              refine z_aload dX7_tell_117 rfl rfl ?_
              refine z_iload dX7_tell_119 rfl rfl ?_
              refine z_sipush (v := (1000 : Int32)) dX7_tell_121 (by decide) rfl ?_
              refine z_irem dX7_tell_124 (by decide) rfl ?_
              refine z_putI f_X7_221 (i_Te (p_71 a11)) rfl (Or.inl rfl) rfl rfl dX7_tell_125 rfl ?_
              refine z_aload dX7_tell_128 rfl rfl ?_
              refine z_iload dX7_tell_130 rfl rfl ?_
              refine z_bipush (v := (10 : Int32)) dX7_tell_132 (by decide) rfl ?_
              refine z_irem dX7_tell_134 (by decide) rfl ?_
              refine z_putI f_X7_224 (i_Te (p_71 a11)) rfl (Or.inl rfl) rfl rfl dX7_tell_135 rfl ?_
              refine z_aload dX7_tell_138 rfl rfl ?_
              refine z_iload dX7_tell_140 rfl rfl ?_
              refine z_bipush (v := (10 : Int32)) dX7_tell_142 (by decide) rfl ?_
              refine z_idiv dX7_tell_144 (by decide) rfl ?_
              refine z_putI f_X7_227 (i_Te (p_71 a11)) rfl (Or.inl rfl) rfl rfl dX7_tell_145 rfl ?_
              refine z_aload dX7_tell_148 rfl rfl ?_
              refine z_iconst (v := (0 : Int32)) dX7_tell_150 (by decide) rfl ?_
              refine z_putI f_X7_230 (i_Te (p_71 a11)) rfl (Or.inl rfl) rfl rfl dX7_tell_151 rfl ?_
              refine z_aload dX7_tell_154 rfl rfl ?_
              refine z_iconst (v := (0 : Int32)) dX7_tell_156 (by decide) rfl ?_
              refine z_putI f_X7_233 (i_Te (p_71 a11)) rfl (Or.inl rfl) rfl rfl dX7_tell_157 rfl ?_
              refine z_aload_n (i := 0) dX7_tell_160 rfl rfl rfl ?_
              refine z_dup dX7_tell_161 rfl rfl ?_
              refine z_getI (x := s9.1 64 7) ((zI_k (by decide)).trans ((zI_k (by decide)).trans ((zI_k (by decide)).trans ((zI_o (by omega)).trans ((zI_k (by decide)).trans ((zI_k (by decide)).trans ((zI_k (by decide)).trans ((zI_k (by decide)).trans ((zI_k (by decide)).trans ((zI_k (by decide)).trans (zI_k (by decide)))))))))))) f_X7_200 i_64 rfl dX7_tell_162 rfl ?_
              refine z_dup_x1 dX7_tell_165 rfl rfl rfl ?_
              refine z_iconst (v := (1 : Int32)) dX7_tell_166 (by decide) rfl ?_
              refine z_iadd dX7_tell_167 rfl ?_
              refine z_putI f_X7_200 i_64 rfl (Or.inl rfl) rfl rfl dX7_tell_168 rfl ?_
              exact z_ret (some (.int (s9.1 64 7))) (Or.inr (Or.inl ⟨_, _, rfl, rfl, rfl, dX7_tell_171⟩)) zN200 ⟨_, rfl, h⟩
            · have h := zif h c
              refine z_iconst (v := (-1 : Int32)) dX7_tell_47 (by decide) rfl ?_
              exact z_ret (some (.int (-1 : Int32))) (Or.inr (Or.inl ⟨_, _, rfl, rfl, rfl, dX7_tell_48⟩)) zN200 ⟨_, rfl, h⟩
theorem dX7_undo_0 : decode cX7_undo 0 = .ok (.aload_n 0, 1) := by decide +kernel
theorem dX7_undo_1 : decode cX7_undo 1 = .ok (.getfield 200, 3) := by decide +kernel
theorem dX7_undo_4 : decode cX7_undo 4 = .ok (.ifCond .ne 5, 3) := by decide +kernel
theorem dX7_undo_7 : decode cX7_undo 7 = .ok (.iconst (-1), 1) := by decide +kernel
theorem dX7_undo_8 : decode cX7_undo 8 = .ok (.ireturn, 1) := by decide +kernel
theorem dX7_undo_9 : decode cX7_undo 9 = .ok (.aload_n 0, 1) := by decide +kernel
theorem dX7_undo_10 : decode cX7_undo 10 = .ok (.dup, 1) := by decide +kernel
theorem dX7_undo_11 : decode cX7_undo 11 = .ok (.getfield 200, 3) := by decide +kernel
theorem dX7_undo_14 : decode cX7_undo 14 = .ok (.iconst 1, 1) := by decide +kernel
theorem dX7_undo_15 : decode cX7_undo 15 = .ok (.isub, 1) := by decide +kernel
theorem dX7_undo_16 : decode cX7_undo 16 = .ok (.putfield 200, 3) := by decide +kernel
theorem dX7_undo_19 : decode cX7_undo 19 = .ok (.aload_n 0, 1) := by decide +kernel
theorem dX7_undo_20 : decode cX7_undo 20 = .ok (.getfield 200, 3) := by decide +kernel
theorem dX7_undo_23 : decode cX7_undo 23 = .ok (.ireturn, 1) := by decide +kernel
set_option maxHeartbeats 4000000 in
set_option maxRecDepth 100000 in
theorem t_X7_undo {l : Launch} {g : zG} {d : Nat} {s : zS} (hR : zRok s)  {K : Int32 → zS → Prop} (h : (if (s.1 64 7) = 0 then K (-1 : Int32) s else K ((s.1 64 7) - (1 : Int32)) (zI s 64 7 ((s.1 64 7) - (1 : Int32))))) : zc l g d M_X7_undo [.ref 64] s (zKi K) := by
  refine zCall_of k_X7_undo (Nat.le_of_ble_eq_true rfl) (Nat.le_refl _) (fun _ => ?_)
  show zt l g d M_X7_undo 0 [.ref 64] [] s (zKi K)
  refine z_aload_n (i := 0) dX7_undo_0 rfl rfl rfl ?_
  refine z_getI (x := s.1 64 7) rfl f_X7_200 i_64 rfl dX7_undo_1 rfl ?_
  refine z_if_ne (pt := 9) dX7_undo_4 (by decide) rfl (fun c => ?_) (fun c => ?_)
  · have h := zif h c
    refine z_aload_n (i := 0) dX7_undo_9 rfl rfl rfl ?_
    refine z_dup dX7_undo_10 rfl rfl ?_
    refine z_getI (x := s.1 64 7) rfl f_X7_200 i_64 rfl dX7_undo_11 rfl ?_
    refine z_iconst (v := (1 : Int32)) dX7_undo_14 (by decide) rfl ?_
    refine z_isub dX7_undo_15 rfl ?_
    refine z_putI f_X7_200 i_64 rfl (Or.inl rfl) rfl rfl dX7_undo_16 rfl ?_
    refine z_aload_n (i := 0) dX7_undo_19 rfl rfl rfl ?_
    refine z_getI (x := (s.1 64 7) - (1 : Int32)) zI_eq f_X7_200 i_64 rfl dX7_undo_20 rfl ?_
    exact z_ret (some (.int ((s.1 64 7) - (1 : Int32)))) (Or.inr (Or.inl ⟨_, _, rfl, rfl, rfl, dX7_undo_23⟩)) zN200 ⟨_, rfl, h⟩
  · have h := zit h c
    refine z_iconst (v := (-1 : Int32)) dX7_undo_7 (by decide) rfl ?_
    exact z_ret (some (.int (-1 : Int32))) (Or.inr (Or.inl ⟨_, _, rfl, rfl, rfl, dX7_undo_8⟩)) zN200 ⟨_, rfl, h⟩
theorem dX7_off_0 : decode cX7_off 0 = .ok (.iload_n 1, 1) := by decide +kernel
theorem dX7_off_1 : decode cX7_off 1 = .ok (.ifCond .lt 20, 3) := by decide +kernel
theorem dX7_off_4 : decode cX7_off 4 = .ok (.iload_n 1, 1) := by decide +kernel
theorem dX7_off_5 : decode cX7_off 5 = .ok (.bipush 32, 2) := by decide +kernel
theorem dX7_off_7 : decode cX7_off 7 = .ok (.if_icmp .gt 14, 3) := by decide +kernel
theorem dX7_off_10 : decode cX7_off 10 = .ok (.iload_n 2, 1) := by decide +kernel
theorem dX7_off_11 : decode cX7_off 11 = .ok (.ifCond .lt 10, 3) := by decide +kernel
theorem dX7_off_14 : decode cX7_off 14 = .ok (.iload_n 2, 1) := by decide +kernel
theorem dX7_off_15 : decode cX7_off 15 = .ok (.sipush 200, 3) := by decide +kernel
theorem dX7_off_18 : decode cX7_off 18 = .ok (.if_icmp .le 5, 3) := by decide +kernel
theorem dX7_off_21 : decode cX7_off 21 = .ok (.iconst 0, 1) := by decide +kernel
theorem dX7_off_22 : decode cX7_off 22 = .ok (.ireturn, 1) := by decide +kernel
theorem dX7_off_23 : decode cX7_off 23 = .ok (.aload_n 0, 1) := by decide +kernel
theorem dX7_off_24 : decode cX7_off 24 = .ok (.iload_n 1, 1) := by decide +kernel
theorem dX7_off_25 : decode cX7_off 25 = .ok (.putfield 41, 3) := by decide +kernel
theorem dX7_off_28 : decode cX7_off 28 = .ok (.aload_n 0, 1) := by decide +kernel
theorem dX7_off_29 : decode cX7_off 29 = .ok (.iload_n 2, 1) := by decide +kernel
theorem dX7_off_30 : decode cX7_off 30 = .ok (.putfield 45, 3) := by decide +kernel
theorem dX7_off_33 : decode cX7_off 33 = .ok (.aload_n 0, 1) := by decide +kernel
theorem dX7_off_34 : decode cX7_off 34 = .ok (.dup, 1) := by decide +kernel
theorem dX7_off_35 : decode cX7_off 35 = .ok (.getfield 48, 3) := by decide +kernel
theorem dX7_off_38 : decode cX7_off 38 = .ok (.iconst 1, 1) := by decide +kernel
theorem dX7_off_39 : decode cX7_off 39 = .ok (.iadd, 1) := by decide +kernel
theorem dX7_off_40 : decode cX7_off 40 = .ok (.putfield 48, 3) := by decide +kernel
theorem dX7_off_43 : decode cX7_off 43 = .ok (.iconst 1, 1) := by decide +kernel
theorem dX7_off_44 : decode cX7_off 44 = .ok (.ireturn, 1) := by decide +kernel
set_option maxHeartbeats 4000000 in
set_option maxRecDepth 100000 in
theorem t_X7_off {l : Launch} {g : zG} {d : Nat} {s : zS} (hR : zRok s) {p0 : Int32} {p1 : Int32} {K : Bool → zS → Prop} (h : (if p0 < 0 then K false s else (if (32 : Int32) < p0 then K false s else (if p1 < 0 then K false s else (if p1 ≤ (200 : Int32) then K true (zI (zI (zI s 64 8 p0) 64 9 p1) 64 10 ((s.1 64 10) + (1 : Int32))) else K false s))))) : zc l g d M_X7_off [.ref 64, .int p0, .int p1] s (zKz K) := by
  refine zCall_of k_X7_off (Nat.le_of_ble_eq_true rfl) (Nat.le_refl _) (fun _ => ?_)
  show zt l g d M_X7_off 0 [.ref 64, .int p0, .int p1] [] s (zKz K)
  refine z_iload_n (i := 1) dX7_off_0 rfl rfl rfl ?_
  refine z_if_lt (pt := 21) dX7_off_1 (by decide) rfl (fun c => ?_) (fun c => ?_)
  · have h := zit h c
    refine z_iconst (v := (0 : Int32)) dX7_off_21 (by decide) rfl ?_
    exact z_ret (some (.int (zb false))) (Or.inr (Or.inl ⟨_, _, rfl, rfl, zb_nar _, dX7_off_22⟩)) zN200 ⟨_, rfl, h⟩
  · have h := zif h c
    refine z_iload_n (i := 1) dX7_off_4 rfl rfl rfl ?_
    refine z_bipush (v := (32 : Int32)) dX7_off_5 (by decide) rfl ?_
    refine z_icmp_gt (pt := 21) dX7_off_7 (by decide) rfl (fun c => ?_) (fun c => ?_)
    · have h := zit h c
      refine z_iconst (v := (0 : Int32)) dX7_off_21 (by decide) rfl ?_
      exact z_ret (some (.int (zb false))) (Or.inr (Or.inl ⟨_, _, rfl, rfl, zb_nar _, dX7_off_22⟩)) zN200 ⟨_, rfl, h⟩
    · have h := zif h c
      refine z_iload_n (i := 2) dX7_off_10 rfl rfl rfl ?_
      refine z_if_lt (pt := 21) dX7_off_11 (by decide) rfl (fun c => ?_) (fun c => ?_)
      · have h := zit h c
        refine z_iconst (v := (0 : Int32)) dX7_off_21 (by decide) rfl ?_
        exact z_ret (some (.int (zb false))) (Or.inr (Or.inl ⟨_, _, rfl, rfl, zb_nar _, dX7_off_22⟩)) zN200 ⟨_, rfl, h⟩
      · have h := zif h c
        refine z_iload_n (i := 2) dX7_off_14 rfl rfl rfl ?_
        refine z_sipush (v := (200 : Int32)) dX7_off_15 (by decide) rfl ?_
        refine z_icmp_le (pt := 23) dX7_off_18 (by decide) rfl (fun c => ?_) (fun c => ?_)
        · have h := zit h c
          refine z_aload_n (i := 0) dX7_off_23 rfl rfl rfl ?_
          refine z_iload_n (i := 1) dX7_off_24 rfl rfl rfl ?_
          refine z_putI f_X7_41 i_64 rfl (Or.inl rfl) rfl rfl dX7_off_25 rfl ?_
          refine z_aload_n (i := 0) dX7_off_28 rfl rfl rfl ?_
          refine z_iload_n (i := 2) dX7_off_29 rfl rfl rfl ?_
          refine z_putI f_X7_45 i_64 rfl (Or.inl rfl) rfl rfl dX7_off_30 rfl ?_
          refine z_aload_n (i := 0) dX7_off_33 rfl rfl rfl ?_
          refine z_dup dX7_off_34 rfl rfl ?_
          refine z_getI (x := s.1 64 10) ((zI_k (by decide)).trans (zI_k (by decide))) f_X7_48 i_64 rfl dX7_off_35 rfl ?_
          refine z_iconst (v := (1 : Int32)) dX7_off_38 (by decide) rfl ?_
          refine z_iadd dX7_off_39 rfl ?_
          refine z_putI f_X7_48 i_64 rfl (Or.inl rfl) rfl rfl dX7_off_40 rfl ?_
          refine z_iconst (v := (1 : Int32)) dX7_off_43 (by decide) rfl ?_
          exact z_ret (some (.int (zb true))) (Or.inr (Or.inl ⟨_, _, rfl, rfl, zb_nar _, dX7_off_44⟩)) zN200 ⟨_, rfl, h⟩
        · have h := zif h c
          refine z_iconst (v := (0 : Int32)) dX7_off_21 (by decide) rfl ?_
          exact z_ret (some (.int (zb false))) (Or.inr (Or.inl ⟨_, _, rfl, rfl, zb_nar _, dX7_off_22⟩)) zN200 ⟨_, rfl, h⟩
theorem dX7_telling_0 : decode cX7_telling 0 = .ok (.aload_n 0, 1) := by decide +kernel
theorem dX7_telling_1 : decode cX7_telling 1 = .ok (.iload_n 1, 1) := by decide +kernel
theorem dX7_telling_2 : decode cX7_telling 2 = .ok (.invokevirtual 236, 3) := by decide +kernel
theorem dX7_telling_5 : decode cX7_telling 5 = .ok (.ifCond .eq 16, 3) := by decide +kernel
theorem dX7_telling_8 : decode cX7_telling 8 = .ok (.aload_n 0, 1) := by decide +kernel
theorem dX7_telling_9 : decode cX7_telling 9 = .ok (.getfield 37, 3) := by decide +kernel
theorem dX7_telling_12 : decode cX7_telling 12 = .ok (.iload_n 1, 1) := by decide +kernel
theorem dX7_telling_13 : decode cX7_telling 13 = .ok (.aaload, 1) := by decide +kernel
theorem dX7_telling_14 : decode cX7_telling 14 = .ok (.iload_n 2, 1) := by decide +kernel
theorem dX7_telling_15 : decode cX7_telling 15 = .ok (.invokevirtual 239, 3) := by decide +kernel
theorem dX7_telling_18 : decode cX7_telling 18 = .ok (.goto 4, 3) := by decide +kernel
theorem dX7_telling_21 : decode cX7_telling 21 = .ok (.iconst (-1), 1) := by decide +kernel
theorem dX7_telling_22 : decode cX7_telling 22 = .ok (.ireturn, 1) := by decide +kernel
set_option maxHeartbeats 4000000 in
set_option maxRecDepth 100000 in
theorem t_X7_telling {l : Launch} {g : zG} {d : Nat} {s : zS} (hR : zRok s) {p0 : Int32} {p1 : Int32} {K : Int32 → zS → Prop} (h : (zc l g d M_X7_isTelling [.ref 64, .int p0] s (zKz (fun b2 s1 => s1.2.2.1 = s.2.2.1 ∧ (if b2 = true then (vp_in p0 60 ∧ (zc l g d M_X5_part [.ref (104 + p0.toNatClampNeg), .int p1] s1 (zKi (fun r5 s4 => s4.2.2.1 = s1.2.2.1 ∧ K r5 s4)))) else K (-1 : Int32) s1))))) : zc l g (d + 1) M_X7_telling [.ref 64, .int p0, .int p1] s (zKi K) := by
  refine zCall_of k_X7_telling (Nat.le_of_ble_eq_true rfl) (Nat.le_refl _) (fun _ => ?_)
  show zt l g (d + 1) M_X7_telling 0 [.ref 64, .int p0, .int p1] [] s (zKi K)
  refine z_aload_n (i := 0) dX7_telling_0 rfl rfl rfl ?_
  refine z_iload_n (i := 1) dX7_telling_1 rfl rfl rfl ?_
  refine z_callV k_X7_isTelling m_X7_236 (zRec_of i_64) rfl h rfl (Nat.le_of_ble_eq_true rfl) dX7_telling_2 zy200 rfl ?_
  rintro v s1 ⟨b2, rfl, hRs1, h⟩
  show zt l g (d + 1) M_X7_telling 5 [.ref 64, .int p0, .int p1] [.int (zb b2)] s1 _
  refine z_ifb_eq (pt := 21) dX7_telling_5 (by decide) rfl (fun c => ?_) (fun c => ?_)
  · have h := zif h (by rw [c]; exact Bool.false_ne_true)
    refine z_iconst (v := (-1 : Int32)) dX7_telling_21 (by decide) rfl ?_
    exact z_ret (some (.int (-1 : Int32))) (Or.inr (Or.inl ⟨_, _, rfl, rfl, rfl, dX7_telling_22⟩)) zN200 ⟨_, rfl, h⟩
  · have h := zit h c
    refine z_aload_n (i := 0) dX7_telling_8 rfl rfl rfl ?_
    refine z_getR (q := 71) f_X7_37 i_64 rfl (r_64_6 (zRok_of hRs1 hR)) (by decide) dX7_telling_9 rfl ?_
    refine z_iload_n (i := 1) dX7_telling_12 rfl rfl rfl ?_
    obtain ⟨a3, h⟩ := h
    have wa3 := vin a3
    refine z_aald (q := 104 + p0.toNatClampNeg) (by decide) a_71 a3 (r_71 (zRok_of hRs1 hR) a3) (by omega) dX7_telling_13 rfl ?_
    refine z_iload_n (i := 2) dX7_telling_14 rfl rfl rfl ?_
    refine z_callV k_X5_part m_X7_239 (zRec_of (i_Te (p_71 a3))) rfl h rfl (Nat.le_of_ble_eq_true rfl) dX7_telling_15 zy200 rfl ?_
    rintro v s4 ⟨r5, rfl, hRs4, h⟩
    show zt l g (d + 1) M_X7_telling 18 [.ref 64, .int p0, .int p1] [.int r5] s4 _
    refine z_goto (pn := 22) dX7_telling_18 (by decide) ?_
    exact z_ret (some (.int r5)) (Or.inr (Or.inl ⟨_, _, rfl, rfl, rfl, dX7_telling_22⟩)) zN200 ⟨_, rfl, h⟩
theorem dX7_fits_0 : decode cX7_fits 0 = .ok (.aload_n 0, 1) := by decide +kernel
theorem dX7_fits_1 : decode cX7_fits 1 = .ok (.iload_n 1, 1) := by decide +kernel
theorem dX7_fits_2 : decode cX7_fits 2 = .ok (.invokevirtual 236, 3) := by decide +kernel
theorem dX7_fits_5 : decode cX7_fits 5 = .ok (.ifCond .ne 5, 3) := by decide +kernel
theorem dX7_fits_8 : decode cX7_fits 8 = .ok (.iconst (-1), 1) := by decide +kernel
theorem dX7_fits_9 : decode cX7_fits 9 = .ok (.ireturn, 1) := by decide +kernel
theorem dX7_fits_10 : decode cX7_fits 10 = .ok (.aload_n 0, 1) := by decide +kernel
theorem dX7_fits_11 : decode cX7_fits 11 = .ok (.aload_n 0, 1) := by decide +kernel
theorem dX7_fits_12 : decode cX7_fits 12 = .ok (.getfield 37, 3) := by decide +kernel
theorem dX7_fits_15 : decode cX7_fits 15 = .ok (.iload_n 1, 1) := by decide +kernel
theorem dX7_fits_16 : decode cX7_fits 16 = .ok (.aaload, 1) := by decide +kernel
theorem dX7_fits_17 : decode cX7_fits 17 = .ok (.invokevirtual 242, 3) := by decide +kernel
theorem dX7_fits_20 : decode cX7_fits 20 = .ok (.istore_n 3, 1) := by decide +kernel
theorem dX7_fits_21 : decode cX7_fits 21 = .ok (.iload_n 2, 1) := by decide +kernel
theorem dX7_fits_22 : decode cX7_fits 22 = .ok (.iconst (-1), 1) := by decide +kernel
theorem dX7_fits_23 : decode cX7_fits 23 = .ok (.if_icmp .ne 8, 3) := by decide +kernel
theorem dX7_fits_26 : decode cX7_fits 26 = .ok (.iload_n 3, 1) := by decide +kernel
theorem dX7_fits_27 : decode cX7_fits 27 = .ok (.invokestatic 245, 3) := by decide +kernel
theorem dX7_fits_30 : decode cX7_fits 30 = .ok (.ireturn, 1) := by decide +kernel
theorem dX7_fits_31 : decode cX7_fits 31 = .ok (.iconst 0, 1) := by decide +kernel
theorem dX7_fits_32 : decode cX7_fits 32 = .ok (.istore 4, 2) := by decide +kernel
theorem dX7_fits_34 : decode cX7_fits 34 = .ok (.iconst 0, 1) := by decide +kernel
theorem dX7_fits_35 : decode cX7_fits 35 = .ok (.istore 5, 2) := by decide +kernel
theorem dX7_fits_37 : decode cX7_fits 37 = .ok (.iload 5, 2) := by decide +kernel
theorem dX7_fits_39 : decode cX7_fits 39 = .ok (.aload_n 0, 1) := by decide +kernel
theorem dX7_fits_40 : decode cX7_fits 40 = .ok (.getfield 103, 3) := by decide +kernel
theorem dX7_fits_43 : decode cX7_fits 43 = .ok (.if_icmp .ge 31, 3) := by decide +kernel
theorem dX7_fits_46 : decode cX7_fits 46 = .ok (.iload_n 3, 1) := by decide +kernel
theorem dX7_fits_47 : decode cX7_fits 47 = .ok (.iload 5, 2) := by decide +kernel
theorem dX7_fits_49 : decode cX7_fits 49 = .ok (.ishr, 1) := by decide +kernel
theorem dX7_fits_50 : decode cX7_fits 50 = .ok (.iconst 1, 1) := by decide +kernel
theorem dX7_fits_51 : decode cX7_fits 51 = .ok (.iand, 1) := by decide +kernel
theorem dX7_fits_52 : decode cX7_fits 52 = .ok (.iconst 1, 1) := by decide +kernel
theorem dX7_fits_53 : decode cX7_fits 53 = .ok (.if_icmp .ne 15, 3) := by decide +kernel
theorem dX7_fits_56 : decode cX7_fits 56 = .ok (.iload 4, 2) := by decide +kernel
theorem dX7_fits_58 : decode cX7_fits 58 = .ok (.iload_n 2, 1) := by decide +kernel
theorem dX7_fits_59 : decode cX7_fits 59 = .ok (.if_icmp .ne 6, 3) := by decide +kernel
theorem dX7_fits_62 : decode cX7_fits 62 = .ok (.iload 5, 2) := by decide +kernel
theorem dX7_fits_64 : decode cX7_fits 64 = .ok (.ireturn, 1) := by decide +kernel
theorem dX7_fits_65 : decode cX7_fits 65 = .ok (.iinc 4 1, 3) := by decide +kernel
theorem dX7_fits_68 : decode cX7_fits 68 = .ok (.iinc 5 1, 3) := by decide +kernel
theorem dX7_fits_71 : decode cX7_fits 71 = .ok (.goto (-34), 3) := by decide +kernel
theorem dX7_fits_74 : decode cX7_fits 74 = .ok (.iconst (-1), 1) := by decide +kernel
theorem dX7_fits_75 : decode cX7_fits 75 = .ok (.ireturn, 1) := by decide +kernel
set_option maxHeartbeats 4000000 in
set_option maxRecDepth 100000 in
theorem t_X7_fits {l : Launch} {g : zG} {d : Nat} {s : zS} (hR : zRok s) {p0 : Int32} {p1 : Int32} {K : Int32 → zS → Prop} (h : (zc l g d M_X7_isTelling [.ref 64, .int p0] s (zKz (fun b2 s1 => s1.2.2.1 = s.2.2.1 ∧ (if b2 = true then (vp_in p0 60 ∧ (zc l g d M_X7_fittingOf [.ref 64, .ref (104 + p0.toNatClampNeg)] s1 (zKi (fun r5 s4 => s4.2.2.1 = s1.2.2.1 ∧ (if p1 = (-1 : Int32) then K (zbc r5) s4 else zt l g (d + 1) M_X7_fits 37 [.ref 64, zJ, .int p1, .int r5, .int (0 : Int32), .int (0 : Int32)] [] s4 (zKi K)))))) else K (-1 : Int32) s1))))) : zc l g (d + 1) M_X7_fits [.ref 64, .int p0, .int p1] s (zKi K) := by
  refine zCall_of k_X7_fits (Nat.le_of_ble_eq_true rfl) (Nat.le_refl _) (fun _ => ?_)
  show zt l g (d + 1) M_X7_fits 0 [.ref 64, .int p0, .int p1, zJ, zJ, zJ] [] s (zKi K)
  refine z_aload_n (i := 0) dX7_fits_0 rfl rfl rfl ?_
  refine z_iload_n (i := 1) dX7_fits_1 rfl rfl rfl ?_
  refine z_callV k_X7_isTelling m_X7_236 (zRec_of i_64) rfl h rfl (Nat.le_of_ble_eq_true rfl) dX7_fits_2 zy200 rfl ?_
  rintro v s1 ⟨b2, rfl, hRs1, h⟩
  show zt l g (d + 1) M_X7_fits 5 [.ref 64, .int p0, .int p1, zJ, zJ, zJ] [.int (zb b2)] s1 _
  refine z_ifb_ne (pt := 10) dX7_fits_5 (by decide) rfl (fun c => ?_) (fun c => ?_)
  · have h := zit h c
    refine z_aload_n (i := 0) dX7_fits_10 rfl rfl rfl ?_
    refine z_aload_n (i := 0) dX7_fits_11 rfl rfl rfl ?_
    refine z_getR (q := 71) f_X7_37 i_64 rfl (r_64_6 (zRok_of hRs1 hR)) (by decide) dX7_fits_12 rfl ?_
    refine z_iload_n (i := 1) dX7_fits_15 rfl rfl rfl ?_
    obtain ⟨a3, h⟩ := h
    have wa3 := vin a3
    refine z_aald (q := 104 + p0.toNatClampNeg) (by decide) a_71 a3 (r_71 (zRok_of hRs1 hR) a3) (by omega) dX7_fits_16 rfl ?_
    refine z_callV k_X7_fittingOf m_X7_242 (zRec_of i_64) rfl h rfl (Nat.le_of_ble_eq_true rfl) dX7_fits_17 zy200 rfl ?_
    rintro v s4 ⟨r5, rfl, hRs4, h⟩
    show zt l g (d + 1) M_X7_fits 20 [.ref 64, .int p0, .int p1, zJ, zJ, zJ] [.int r5] s4 _
    refine z_istore_n (i := 3) dX7_fits_20 rfl (by decide) (zokd rfl) rfl ?_
    show zt l g (d + 1) M_X7_fits 21 [.ref 64, .int p0, .int p1, .int r5, zJ, zJ] [] s4 _
    refine z_iload_n (i := 2) dX7_fits_21 rfl rfl rfl ?_
    refine z_iconst (v := (-1 : Int32)) dX7_fits_22 (by decide) rfl ?_
    refine z_icmp_ne (pt := 31) dX7_fits_23 (by decide) rfl (fun c => ?_) (fun c => ?_)
    · have h := zif h c
      refine z_iconst (v := (0 : Int32)) dX7_fits_31 (by decide) rfl ?_
      refine z_istore dX7_fits_32 (by decide) (zokd rfl) rfl ?_
      show zt l g (d + 1) M_X7_fits 34 [.ref 64, .int p0, .int p1, .int r5, .int (0 : Int32), zJ] [] s4 _
      refine z_iconst (v := (0 : Int32)) dX7_fits_34 (by decide) rfl ?_
      refine z_istore dX7_fits_35 (by decide) (zokd rfl) rfl ?_
      show zt l g (d + 1) M_X7_fits 37 [.ref 64, .int p0, .int p1, .int r5, .int (0 : Int32), .int (0 : Int32)] [] s4 _
      refine z_wk (ls' := [.ref 64, zJ, .int p1, .int r5, .int (0 : Int32), .int (0 : Int32)]) ⟨Or.inr rfl, Or.inl rfl, Or.inr rfl, Or.inr rfl, Or.inr rfl, Or.inr rfl, trivial⟩ ?_
      exact h
    · have h := zit h c
      refine z_iload_n (i := 3) dX7_fits_26 rfl rfl rfl ?_
      refine z_bitc m_X7_245 dX7_fits_27 (Nat.le_of_ble_eq_true rfl) rfl ?_
      exact z_ret (some (.int (zbc r5))) (Or.inr (Or.inl ⟨_, _, rfl, rfl, rfl, dX7_fits_30⟩)) zN200 ⟨_, rfl, h⟩
  · have h := zif h (by rw [c]; exact Bool.false_ne_true)
    refine z_iconst (v := (-1 : Int32)) dX7_fits_8 (by decide) rfl ?_
    exact z_ret (some (.int (-1 : Int32))) (Or.inr (Or.inl ⟨_, _, rfl, rfl, rfl, dX7_fits_9⟩)) zN200 ⟨_, rfl, h⟩
set_option maxHeartbeats 4000000 in
set_option maxRecDepth 100000 in
theorem t_X7_fits_37 {l : Launch} {g : zG} {d : Nat} {s : zS} (hR : zRok s) {x2 : Int32} {x3 : Int32} {x4 : Int32} {x5 : Int32} {K : Int32 → zS → Prop} (h : (if (s.1 64 5) ≤ x5 then K (-1 : Int32) s else (if ((x3 >>> (x5 &&& 31)) &&& (1 : Int32)) = (1 : Int32) then (if x4 = x2 then K x5 s else zt l g (d + 1) M_X7_fits 37 [.ref 64, zJ, .int x2, .int x3, .int (x4 + (1 : Int32)), .int (x5 + (1 : Int32))] [] s (zKi K)) else zt l g (d + 1) M_X7_fits 37 [.ref 64, zJ, .int x2, .int x3, .int x4, .int (x5 + (1 : Int32))] [] s (zKi K)))) : zt l g (d + 1) M_X7_fits 37 [.ref 64, zJ, .int x2, .int x3, .int x4, .int x5] [] s (zKi K) := by
  refine z_iload dX7_fits_37 rfl rfl ?_
  refine z_aload_n (i := 0) dX7_fits_39 rfl rfl rfl ?_
  refine z_getI (x := s.1 64 5) rfl f_X7_103 i_64 rfl dX7_fits_40 rfl ?_
  refine z_icmp_ge (pt := 74) dX7_fits_43 (by decide) rfl (fun c => ?_) (fun c => ?_)
  · have h := zit h c
    refine z_iconst (v := (-1 : Int32)) dX7_fits_74 (by decide) rfl ?_
    exact z_ret (some (.int (-1 : Int32))) (Or.inr (Or.inl ⟨_, _, rfl, rfl, rfl, dX7_fits_75⟩)) zN200 ⟨_, rfl, h⟩
  · have h := zif h c
    refine z_iload_n (i := 3) dX7_fits_46 rfl rfl rfl ?_
    refine z_iload dX7_fits_47 rfl rfl ?_
    refine z_ishr dX7_fits_49 rfl ?_
    refine z_iconst (v := (1 : Int32)) dX7_fits_50 (by decide) rfl ?_
    refine z_iand dX7_fits_51 rfl ?_
    refine z_iconst (v := (1 : Int32)) dX7_fits_52 (by decide) rfl ?_
    refine z_icmp_ne (pt := 68) dX7_fits_53 (by decide) rfl (fun c => ?_) (fun c => ?_)
    · have h := zif h c
      refine z_iinc (v := x5 + (1 : Int32)) dX7_fits_68 rfl rfl (by decide) (zokd rfl) rfl ?_
      show zt l g (d + 1) M_X7_fits 71 [.ref 64, zJ, .int x2, .int x3, .int x4, .int (x5 + (1 : Int32))] [] s _
      refine z_goto (pn := 37) dX7_fits_71 (by decide) ?_
      exact h
    · have h := zit h c
      refine z_iload dX7_fits_56 rfl rfl ?_
      refine z_iload_n (i := 2) dX7_fits_58 rfl rfl rfl ?_
      refine z_icmp_ne (pt := 65) dX7_fits_59 (by decide) rfl (fun c => ?_) (fun c => ?_)
      · have h := zif h c
        refine z_iinc (v := x4 + (1 : Int32)) dX7_fits_65 rfl rfl (by decide) (zokd rfl) rfl ?_
        show zt l g (d + 1) M_X7_fits 68 [.ref 64, zJ, .int x2, .int x3, .int (x4 + (1 : Int32)), .int x5] [] s _
        refine z_iinc (v := x5 + (1 : Int32)) dX7_fits_68 rfl rfl (by decide) (zokd rfl) rfl ?_
        show zt l g (d + 1) M_X7_fits 71 [.ref 64, zJ, .int x2, .int x3, .int (x4 + (1 : Int32)), .int (x5 + (1 : Int32))] [] s _
        refine z_goto (pn := 37) dX7_fits_71 (by decide) ?_
        exact h
      · have h := zit h c
        refine z_iload dX7_fits_62 rfl rfl ?_
        exact z_ret (some (.int x5)) (Or.inr (Or.inl ⟨_, _, rfl, rfl, rfl, dX7_fits_64⟩)) zN200 ⟨_, rfl, h⟩
theorem dX7_left_0 : decode cX7_left 0 = .ok (.iconst 0, 1) := by decide +kernel
theorem dX7_left_1 : decode cX7_left 1 = .ok (.istore_n 2, 1) := by decide +kernel
theorem dX7_left_2 : decode cX7_left 2 = .ok (.iconst 0, 1) := by decide +kernel
theorem dX7_left_3 : decode cX7_left 3 = .ok (.istore_n 3, 1) := by decide +kernel
theorem dX7_left_4 : decode cX7_left 4 = .ok (.iload_n 3, 1) := by decide +kernel
theorem dX7_left_5 : decode cX7_left 5 = .ok (.aload_n 0, 1) := by decide +kernel
theorem dX7_left_6 : decode cX7_left 6 = .ok (.getfield 200, 3) := by decide +kernel
theorem dX7_left_9 : decode cX7_left 9 = .ok (.if_icmp .ge 32, 3) := by decide +kernel
theorem dX7_left_12 : decode cX7_left 12 = .ok (.aload_n 0, 1) := by decide +kernel
theorem dX7_left_13 : decode cX7_left 13 = .ok (.aload_n 0, 1) := by decide +kernel
theorem dX7_left_14 : decode cX7_left 14 = .ok (.getfield 37, 3) := by decide +kernel
theorem dX7_left_17 : decode cX7_left 17 = .ok (.iload_n 3, 1) := by decide +kernel
theorem dX7_left_18 : decode cX7_left 18 = .ok (.aaload, 1) := by decide +kernel
theorem dX7_left_19 : decode cX7_left 19 = .ok (.invokevirtual 242, 3) := by decide +kernel
theorem dX7_left_22 : decode cX7_left 22 = .ok (.ifCond .ne 13, 3) := by decide +kernel
theorem dX7_left_25 : decode cX7_left 25 = .ok (.iload_n 2, 1) := by decide +kernel
theorem dX7_left_26 : decode cX7_left 26 = .ok (.iload_n 1, 1) := by decide +kernel
theorem dX7_left_27 : decode cX7_left 27 = .ok (.if_icmp .ne 5, 3) := by decide +kernel
theorem dX7_left_30 : decode cX7_left 30 = .ok (.iload_n 3, 1) := by decide +kernel
theorem dX7_left_31 : decode cX7_left 31 = .ok (.ireturn, 1) := by decide +kernel
theorem dX7_left_32 : decode cX7_left 32 = .ok (.iinc 2 1, 3) := by decide +kernel
theorem dX7_left_35 : decode cX7_left 35 = .ok (.iinc 3 1, 3) := by decide +kernel
theorem dX7_left_38 : decode cX7_left 38 = .ok (.goto (-34), 3) := by decide +kernel
theorem dX7_left_41 : decode cX7_left 41 = .ok (.iload_n 1, 1) := by decide +kernel
theorem dX7_left_42 : decode cX7_left 42 = .ok (.iconst (-1), 1) := by decide +kernel
theorem dX7_left_43 : decode cX7_left 43 = .ok (.if_icmp .ne 7, 3) := by decide +kernel
theorem dX7_left_46 : decode cX7_left 46 = .ok (.iload_n 2, 1) := by decide +kernel
theorem dX7_left_47 : decode cX7_left 47 = .ok (.goto 4, 3) := by decide +kernel
theorem dX7_left_50 : decode cX7_left 50 = .ok (.iconst (-1), 1) := by decide +kernel
theorem dX7_left_51 : decode cX7_left 51 = .ok (.ireturn, 1) := by decide +kernel
set_option maxHeartbeats 4000000 in
set_option maxRecDepth 100000 in
theorem t_X7_left {l : Launch} {g : zG} {d : Nat} {s : zS} (hR : zRok s) {p0 : Int32} {K : Int32 → zS → Prop} (h : zt l g (d + 1) M_X7_left 4 [.ref 64, .int p0, .int (0 : Int32), .int (0 : Int32)] [] s (zKi K)) : zc l g (d + 1) M_X7_left [.ref 64, .int p0] s (zKi K) := by
  refine zCall_of k_X7_left (Nat.le_of_ble_eq_true rfl) (Nat.le_refl _) (fun _ => ?_)
  show zt l g (d + 1) M_X7_left 0 [.ref 64, .int p0, zJ, zJ] [] s (zKi K)
  refine z_iconst (v := (0 : Int32)) dX7_left_0 (by decide) rfl ?_
  refine z_istore_n (i := 2) dX7_left_1 rfl (by decide) (zokd rfl) rfl ?_
  show zt l g (d + 1) M_X7_left 2 [.ref 64, .int p0, .int (0 : Int32), zJ] [] s _
  refine z_iconst (v := (0 : Int32)) dX7_left_2 (by decide) rfl ?_
  refine z_istore_n (i := 3) dX7_left_3 rfl (by decide) (zokd rfl) rfl ?_
  show zt l g (d + 1) M_X7_left 4 [.ref 64, .int p0, .int (0 : Int32), .int (0 : Int32)] [] s _
  exact h
set_option maxHeartbeats 4000000 in
set_option maxRecDepth 100000 in
theorem t_X7_left_4 {l : Launch} {g : zG} {d : Nat} {s : zS} (hR : zRok s) {x1 : Int32} {x2 : Int32} {x3 : Int32} {K : Int32 → zS → Prop} (h : (if (s.1 64 7) ≤ x3 then (if x1 = (-1 : Int32) then K x2 s else K (-1 : Int32) s) else (vp_in x3 60 ∧ (zc l g d M_X7_fittingOf [.ref 64, .ref (104 + x3.toNatClampNeg)] s (zKi (fun r3 s2 => s2.2.2.1 = s.2.2.1 ∧ (if r3 = 0 then (if x2 = x1 then K x3 s2 else zt l g (d + 1) M_X7_left 4 [.ref 64, .int x1, .int (x2 + (1 : Int32)), .int (x3 + (1 : Int32))] [] s2 (zKi K)) else zt l g (d + 1) M_X7_left 4 [.ref 64, .int x1, .int x2, .int (x3 + (1 : Int32))] [] s2 (zKi K)))))))) : zt l g (d + 1) M_X7_left 4 [.ref 64, .int x1, .int x2, .int x3] [] s (zKi K) := by
  refine z_iload_n (i := 3) dX7_left_4 rfl rfl rfl ?_
  refine z_aload_n (i := 0) dX7_left_5 rfl rfl rfl ?_
  refine z_getI (x := s.1 64 7) rfl f_X7_200 i_64 rfl dX7_left_6 rfl ?_
  refine z_icmp_ge (pt := 41) dX7_left_9 (by decide) rfl (fun c => ?_) (fun c => ?_)
  · have h := zit h c
    refine z_iload_n (i := 1) dX7_left_41 rfl rfl rfl ?_
    refine z_iconst (v := (-1 : Int32)) dX7_left_42 (by decide) rfl ?_
    refine z_icmp_ne (pt := 50) dX7_left_43 (by decide) rfl (fun c => ?_) (fun c => ?_)
    · have h := zif h c
      refine z_iconst (v := (-1 : Int32)) dX7_left_50 (by decide) rfl ?_
      exact z_ret (some (.int (-1 : Int32))) (Or.inr (Or.inl ⟨_, _, rfl, rfl, rfl, dX7_left_51⟩)) zN200 ⟨_, rfl, h⟩
    · have h := zit h c
      refine z_iload_n (i := 2) dX7_left_46 rfl rfl rfl ?_
      refine z_goto (pn := 51) dX7_left_47 (by decide) ?_
      exact z_ret (some (.int x2)) (Or.inr (Or.inl ⟨_, _, rfl, rfl, rfl, dX7_left_51⟩)) zN200 ⟨_, rfl, h⟩
  · have h := zif h c
    refine z_aload_n (i := 0) dX7_left_12 rfl rfl rfl ?_
    refine z_aload_n (i := 0) dX7_left_13 rfl rfl rfl ?_
    refine z_getR (q := 71) f_X7_37 i_64 rfl (r_64_6 hR) (by decide) dX7_left_14 rfl ?_
    refine z_iload_n (i := 3) dX7_left_17 rfl rfl rfl ?_
    obtain ⟨a1, h⟩ := h
    have wa1 := vin a1
    refine z_aald (q := 104 + x3.toNatClampNeg) (by decide) a_71 a1 (r_71 hR a1) (by omega) dX7_left_18 rfl ?_
    refine z_callV k_X7_fittingOf m_X7_242 (zRec_of i_64) rfl h rfl (Nat.le_of_ble_eq_true rfl) dX7_left_19 zy200 rfl ?_
    rintro v s2 ⟨r3, rfl, hRs2, h⟩
    show zt l g (d + 1) M_X7_left 22 [.ref 64, .int x1, .int x2, .int x3] [.int r3] s2 _
    refine z_if_ne (pt := 35) dX7_left_22 (by decide) rfl (fun c => ?_) (fun c => ?_)
    · have h := zif h c
      refine z_iinc (v := x3 + (1 : Int32)) dX7_left_35 rfl rfl (by decide) (zokd rfl) rfl ?_
      show zt l g (d + 1) M_X7_left 38 [.ref 64, .int x1, .int x2, .int (x3 + (1 : Int32))] [] s2 _
      refine z_goto (pn := 4) dX7_left_38 (by decide) ?_
      exact h
    · have h := zit h c
      refine z_iload_n (i := 2) dX7_left_25 rfl rfl rfl ?_
      refine z_iload_n (i := 1) dX7_left_26 rfl rfl rfl ?_
      refine z_icmp_ne (pt := 32) dX7_left_27 (by decide) rfl (fun c => ?_) (fun c => ?_)
      · have h := zif h c
        refine z_iinc (v := x2 + (1 : Int32)) dX7_left_32 rfl rfl (by decide) (zokd rfl) rfl ?_
        show zt l g (d + 1) M_X7_left 35 [.ref 64, .int x1, .int (x2 + (1 : Int32)), .int x3] [] s2 _
        refine z_iinc (v := x3 + (1 : Int32)) dX7_left_35 rfl rfl (by decide) (zokd rfl) rfl ?_
        show zt l g (d + 1) M_X7_left 38 [.ref 64, .int x1, .int (x2 + (1 : Int32)), .int (x3 + (1 : Int32))] [] s2 _
        refine z_goto (pn := 4) dX7_left_38 (by decide) ?_
        exact h
      · have h := zit h c
        refine z_iload_n (i := 3) dX7_left_30 rfl rfl rfl ?_
        exact z_ret (some (.int x3)) (Or.inr (Or.inl ⟨_, _, rfl, rfl, rfl, dX7_left_31⟩)) zN200 ⟨_, rfl, h⟩
theorem dX7_fewest_0 : decode cX7_fewest 0 = .ok (.aload_n 0, 1) := by decide +kernel
theorem dX7_fewest_1 : decode cX7_fewest 1 = .ok (.invokevirtual 250, 3) := by decide +kernel
theorem dX7_fewest_4 : decode cX7_fewest 4 = .ok (.istore_n 1, 1) := by decide +kernel
theorem dX7_fewest_5 : decode cX7_fewest 5 = .ok (.iconst 0, 1) := by decide +kernel
theorem dX7_fewest_6 : decode cX7_fewest 6 = .ok (.istore_n 2, 1) := by decide +kernel
theorem dX7_fewest_7 : decode cX7_fewest 7 = .ok (.bipush 13, 2) := by decide +kernel
theorem dX7_fewest_9 : decode cX7_fewest 9 = .ok (.istore_n 3, 1) := by decide +kernel
theorem dX7_fewest_10 : decode cX7_fewest 10 = .ok (.iconst 0, 1) := by decide +kernel
theorem dX7_fewest_11 : decode cX7_fewest 11 = .ok (.istore 4, 2) := by decide +kernel
theorem dX7_fewest_13 : decode cX7_fewest 13 = .ok (.iload 4, 2) := by decide +kernel
theorem dX7_fewest_15 : decode cX7_fewest 15 = .ok (.iconst 1, 1) := by decide +kernel
theorem dX7_fewest_16 : decode cX7_fewest 16 = .ok (.aload_n 0, 1) := by decide +kernel
theorem dX7_fewest_17 : decode cX7_fewest 17 = .ok (.getfield 103, 3) := by decide +kernel
theorem dX7_fewest_20 : decode cX7_fewest 20 = .ok (.ishl, 1) := by decide +kernel
theorem dX7_fewest_21 : decode cX7_fewest 21 = .ok (.if_icmp .ge 38, 3) := by decide +kernel
theorem dX7_fewest_24 : decode cX7_fewest 24 = .ok (.iload 4, 2) := by decide +kernel
theorem dX7_fewest_26 : decode cX7_fewest 26 = .ok (.invokestatic 245, 3) := by decide +kernel
theorem dX7_fewest_29 : decode cX7_fewest 29 = .ok (.istore 5, 2) := by decide +kernel
theorem dX7_fewest_31 : decode cX7_fewest 31 = .ok (.iload 5, 2) := by decide +kernel
theorem dX7_fewest_33 : decode cX7_fewest 33 = .ok (.iload_n 3, 1) := by decide +kernel
theorem dX7_fewest_34 : decode cX7_fewest 34 = .ok (.if_icmp .ge 19, 3) := by decide +kernel
theorem dX7_fewest_37 : decode cX7_fewest 37 = .ok (.aload_n 0, 1) := by decide +kernel
theorem dX7_fewest_38 : decode cX7_fewest 38 = .ok (.iload 4, 2) := by decide +kernel
theorem dX7_fewest_40 : decode cX7_fewest 40 = .ok (.iload_n 1, 1) := by decide +kernel
theorem dX7_fewest_41 : decode cX7_fewest 41 = .ok (.invokevirtual 253, 3) := by decide +kernel
theorem dX7_fewest_44 : decode cX7_fewest 44 = .ok (.ifCond .eq 9, 3) := by decide +kernel
theorem dX7_fewest_47 : decode cX7_fewest 47 = .ok (.iload 4, 2) := by decide +kernel
theorem dX7_fewest_49 : decode cX7_fewest 49 = .ok (.istore_n 2, 1) := by decide +kernel
theorem dX7_fewest_50 : decode cX7_fewest 50 = .ok (.iload 5, 2) := by decide +kernel
theorem dX7_fewest_52 : decode cX7_fewest 52 = .ok (.istore_n 3, 1) := by decide +kernel
theorem dX7_fewest_53 : decode cX7_fewest 53 = .ok (.iinc 4 1, 3) := by decide +kernel
theorem dX7_fewest_56 : decode cX7_fewest 56 = .ok (.goto (-43), 3) := by decide +kernel
theorem dX7_fewest_59 : decode cX7_fewest 59 = .ok (.iload_n 2, 1) := by decide +kernel
theorem dX7_fewest_60 : decode cX7_fewest 60 = .ok (.ireturn, 1) := by decide +kernel
set_option maxHeartbeats 4000000 in
set_option maxRecDepth 100000 in
theorem t_X7_fewest {l : Launch} {g : zG} {d : Nat} {s : zS} (hR : zRok s)  {K : Int32 → zS → Prop} (h : (zc l g d M_X7_gatherNeeds [.ref 64] s (zKi (fun r2 s1 => s1.2.2.1 = s.2.2.1 ∧ zt l g (d + 1) M_X7_fewest 13 [.ref 64, .int r2, .int (0 : Int32), .int (13 : Int32), .int (0 : Int32), zJ] [] s1 (zKi K))))) : zc l g (d + 1) M_X7_fewest [.ref 64] s (zKi K) := by
  refine zCall_of k_X7_fewest (Nat.le_of_ble_eq_true rfl) (Nat.le_refl _) (fun _ => ?_)
  show zt l g (d + 1) M_X7_fewest 0 [.ref 64, zJ, zJ, zJ, zJ, zJ] [] s (zKi K)
  refine z_aload_n (i := 0) dX7_fewest_0 rfl rfl rfl ?_
  refine z_callV k_X7_gatherNeeds m_X7_250 (zRec_of i_64) rfl h rfl (Nat.le_of_ble_eq_true rfl) dX7_fewest_1 zy200 rfl ?_
  rintro v s1 ⟨r2, rfl, hRs1, h⟩
  show zt l g (d + 1) M_X7_fewest 4 [.ref 64, zJ, zJ, zJ, zJ, zJ] [.int r2] s1 _
  refine z_istore_n (i := 1) dX7_fewest_4 rfl (by decide) (zokd rfl) rfl ?_
  show zt l g (d + 1) M_X7_fewest 5 [.ref 64, .int r2, zJ, zJ, zJ, zJ] [] s1 _
  refine z_iconst (v := (0 : Int32)) dX7_fewest_5 (by decide) rfl ?_
  refine z_istore_n (i := 2) dX7_fewest_6 rfl (by decide) (zokd rfl) rfl ?_
  show zt l g (d + 1) M_X7_fewest 7 [.ref 64, .int r2, .int (0 : Int32), zJ, zJ, zJ] [] s1 _
  refine z_bipush (v := (13 : Int32)) dX7_fewest_7 (by decide) rfl ?_
  refine z_istore_n (i := 3) dX7_fewest_9 rfl (by decide) (zokd rfl) rfl ?_
  show zt l g (d + 1) M_X7_fewest 10 [.ref 64, .int r2, .int (0 : Int32), .int (13 : Int32), zJ, zJ] [] s1 _
  refine z_iconst (v := (0 : Int32)) dX7_fewest_10 (by decide) rfl ?_
  refine z_istore dX7_fewest_11 (by decide) (zokd rfl) rfl ?_
  show zt l g (d + 1) M_X7_fewest 13 [.ref 64, .int r2, .int (0 : Int32), .int (13 : Int32), .int (0 : Int32), zJ] [] s1 _
  exact h
set_option maxHeartbeats 4000000 in
set_option maxRecDepth 100000 in
theorem t_X7_fewest_13 {l : Launch} {g : zG} {d : Nat} {s : zS} (hR : zRok s) {x1 : Int32} {x2 : Int32} {x3 : Int32} {x4 : Int32} {K : Int32 → zS → Prop} (h : (if ((1 : Int32) <<< ((s.1 64 5) &&& 31)) ≤ x4 then K x2 s else (if x3 ≤ (zbc x4) then zt l g (d + 1) M_X7_fewest 13 [.ref 64, .int x1, .int x2, .int x3, .int (x4 + (1 : Int32)), zJ] [] s (zKi K) else (zc l g d M_X7_meetsAll [.ref 64, .int x4, .int x1] s (zKz (fun b2 s1 => s1.2.2.1 = s.2.2.1 ∧ (if b2 = true then zt l g (d + 1) M_X7_fewest 13 [.ref 64, .int x1, .int x4, .int (zbc x4), .int (x4 + (1 : Int32)), zJ] [] s1 (zKi K) else zt l g (d + 1) M_X7_fewest 13 [.ref 64, .int x1, .int x2, .int x3, .int (x4 + (1 : Int32)), zJ] [] s1 (zKi K)))))))) : zt l g (d + 1) M_X7_fewest 13 [.ref 64, .int x1, .int x2, .int x3, .int x4, zJ] [] s (zKi K) := by
  refine z_iload dX7_fewest_13 rfl rfl ?_
  refine z_iconst (v := (1 : Int32)) dX7_fewest_15 (by decide) rfl ?_
  refine z_aload_n (i := 0) dX7_fewest_16 rfl rfl rfl ?_
  refine z_getI (x := s.1 64 5) rfl f_X7_103 i_64 rfl dX7_fewest_17 rfl ?_
  refine z_ishl dX7_fewest_20 rfl ?_
  refine z_icmp_ge (pt := 59) dX7_fewest_21 (by decide) rfl (fun c => ?_) (fun c => ?_)
  · have h := zit h c
    refine z_iload_n (i := 2) dX7_fewest_59 rfl rfl rfl ?_
    exact z_ret (some (.int x2)) (Or.inr (Or.inl ⟨_, _, rfl, rfl, rfl, dX7_fewest_60⟩)) zN200 ⟨_, rfl, h⟩
  · have h := zif h c
    refine z_iload dX7_fewest_24 rfl rfl ?_
    refine z_bitc m_X7_245 dX7_fewest_26 (Nat.le_of_ble_eq_true rfl) rfl ?_
    refine z_istore dX7_fewest_29 (by decide) (zokd rfl) rfl ?_
    show zt l g (d + 1) M_X7_fewest 31 [.ref 64, .int x1, .int x2, .int x3, .int x4, .int (zbc x4)] [] s _
    refine z_iload dX7_fewest_31 rfl rfl ?_
    refine z_iload_n (i := 3) dX7_fewest_33 rfl rfl rfl ?_
    refine z_icmp_ge (pt := 53) dX7_fewest_34 (by decide) rfl (fun c => ?_) (fun c => ?_)
    · have h := zit h c
      refine z_iinc (v := x4 + (1 : Int32)) dX7_fewest_53 rfl rfl (by decide) (zokd rfl) rfl ?_
      show zt l g (d + 1) M_X7_fewest 56 [.ref 64, .int x1, .int x2, .int x3, .int (x4 + (1 : Int32)), .int (zbc x4)] [] s _
      refine z_goto (pn := 13) dX7_fewest_56 (by decide) ?_
      refine z_wk (ls' := [.ref 64, .int x1, .int x2, .int x3, .int (x4 + (1 : Int32)), zJ]) ⟨Or.inr rfl, Or.inr rfl, Or.inr rfl, Or.inr rfl, Or.inr rfl, Or.inl rfl, trivial⟩ ?_
      exact h
    · have h := zif h c
      refine z_aload_n (i := 0) dX7_fewest_37 rfl rfl rfl ?_
      refine z_iload dX7_fewest_38 rfl rfl ?_
      refine z_iload_n (i := 1) dX7_fewest_40 rfl rfl rfl ?_
      refine z_callV k_X7_meetsAll m_X7_253 (zRec_of i_64) rfl h rfl (Nat.le_of_ble_eq_true rfl) dX7_fewest_41 zy200 rfl ?_
      rintro v s1 ⟨b2, rfl, hRs1, h⟩
      show zt l g (d + 1) M_X7_fewest 44 [.ref 64, .int x1, .int x2, .int x3, .int x4, .int (zbc x4)] [.int (zb b2)] s1 _
      refine z_ifb_eq (pt := 53) dX7_fewest_44 (by decide) rfl (fun c => ?_) (fun c => ?_)
      · have h := zif h (by rw [c]; exact Bool.false_ne_true)
        refine z_iinc (v := x4 + (1 : Int32)) dX7_fewest_53 rfl rfl (by decide) (zokd rfl) rfl ?_
        show zt l g (d + 1) M_X7_fewest 56 [.ref 64, .int x1, .int x2, .int x3, .int (x4 + (1 : Int32)), .int (zbc x4)] [] s1 _
        refine z_goto (pn := 13) dX7_fewest_56 (by decide) ?_
        refine z_wk (ls' := [.ref 64, .int x1, .int x2, .int x3, .int (x4 + (1 : Int32)), zJ]) ⟨Or.inr rfl, Or.inr rfl, Or.inr rfl, Or.inr rfl, Or.inr rfl, Or.inl rfl, trivial⟩ ?_
        exact h
      · have h := zit h c
        refine z_iload dX7_fewest_47 rfl rfl ?_
        refine z_istore_n (i := 2) dX7_fewest_49 rfl (by decide) (zokd rfl) rfl ?_
        show zt l g (d + 1) M_X7_fewest 50 [.ref 64, .int x1, .int x4, .int x3, .int x4, .int (zbc x4)] [] s1 _
        refine z_iload dX7_fewest_50 rfl rfl ?_
        refine z_istore_n (i := 3) dX7_fewest_52 rfl (by decide) (zokd rfl) rfl ?_
        show zt l g (d + 1) M_X7_fewest 53 [.ref 64, .int x1, .int x4, .int (zbc x4), .int x4, .int (zbc x4)] [] s1 _
        refine z_iinc (v := x4 + (1 : Int32)) dX7_fewest_53 rfl rfl (by decide) (zokd rfl) rfl ?_
        show zt l g (d + 1) M_X7_fewest 56 [.ref 64, .int x1, .int x4, .int (zbc x4), .int (x4 + (1 : Int32)), .int (zbc x4)] [] s1 _
        refine z_goto (pn := 13) dX7_fewest_56 (by decide) ?_
        refine z_wk (ls' := [.ref 64, .int x1, .int x4, .int (zbc x4), .int (x4 + (1 : Int32)), zJ]) ⟨Or.inr rfl, Or.inr rfl, Or.inr rfl, Or.inr rfl, Or.inr rfl, Or.inl rfl, trivial⟩ ?_
        exact h
theorem dX7_joined_0 : decode cX7_joined 0 = .ok (.aload_n 0, 1) := by decide +kernel
theorem dX7_joined_1 : decode cX7_joined 1 = .ok (.iload_n 1, 1) := by decide +kernel
theorem dX7_joined_2 : decode cX7_joined 2 = .ok (.invokevirtual 236, 3) := by decide +kernel
theorem dX7_joined_5 : decode cX7_joined 5 = .ok (.ifCond .eq 11, 3) := by decide +kernel
theorem dX7_joined_8 : decode cX7_joined 8 = .ok (.aload_n 0, 1) := by decide +kernel
theorem dX7_joined_9 : decode cX7_joined 9 = .ok (.iload_n 2, 1) := by decide +kernel
theorem dX7_joined_10 : decode cX7_joined 10 = .ok (.invokevirtual 236, 3) := by decide +kernel
theorem dX7_joined_13 : decode cX7_joined 13 = .ok (.ifCond .ne 5, 3) := by decide +kernel
theorem dX7_joined_16 : decode cX7_joined 16 = .ok (.iconst (-1), 1) := by decide +kernel
theorem dX7_joined_17 : decode cX7_joined 17 = .ok (.ireturn, 1) := by decide +kernel
theorem dX7_joined_18 : decode cX7_joined 18 = .ok (.aload_n 0, 1) := by decide +kernel
theorem dX7_joined_19 : decode cX7_joined 19 = .ok (.getfield 37, 3) := by decide +kernel
theorem dX7_joined_22 : decode cX7_joined 22 = .ok (.iload_n 1, 1) := by decide +kernel
theorem dX7_joined_23 : decode cX7_joined 23 = .ok (.aaload, 1) := by decide +kernel
theorem dX7_joined_24 : decode cX7_joined 24 = .ok (.astore_n 3, 1) := by decide +kernel
theorem dX7_joined_25 : decode cX7_joined 25 = .ok (.aload_n 0, 1) := by decide +kernel
theorem dX7_joined_26 : decode cX7_joined 26 = .ok (.getfield 37, 3) := by decide +kernel
theorem dX7_joined_29 : decode cX7_joined 29 = .ok (.iload_n 2, 1) := by decide +kernel
theorem dX7_joined_30 : decode cX7_joined 30 = .ok (.aaload, 1) := by decide +kernel
theorem dX7_joined_31 : decode cX7_joined 31 = .ok (.astore 4, 2) := by decide +kernel
theorem dX7_joined_33 : decode cX7_joined 33 = .ok (.aload_n 3, 1) := by decide +kernel
theorem dX7_joined_34 : decode cX7_joined 34 = .ok (.getfield 203, 3) := by decide +kernel
theorem dX7_joined_37 : decode cX7_joined 37 = .ok (.aload 4, 2) := by decide +kernel
theorem dX7_joined_39 : decode cX7_joined 39 = .ok (.getfield 203, 3) := by decide +kernel
theorem dX7_joined_42 : decode cX7_joined 42 = .ok (.if_icmp .eq 27, 3) := by decide +kernel
theorem dX7_joined_45 : decode cX7_joined 45 = .ok (.aload_n 3, 1) := by decide +kernel
theorem dX7_joined_46 : decode cX7_joined 46 = .ok (.getfield 206, 3) := by decide +kernel
theorem dX7_joined_49 : decode cX7_joined 49 = .ok (.aload 4, 2) := by decide +kernel
theorem dX7_joined_51 : decode cX7_joined 51 = .ok (.getfield 209, 3) := by decide +kernel
theorem dX7_joined_54 : decode cX7_joined 54 = .ok (.if_icmp .gt 15, 3) := by decide +kernel
theorem dX7_joined_57 : decode cX7_joined 57 = .ok (.aload 4, 2) := by decide +kernel
theorem dX7_joined_59 : decode cX7_joined 59 = .ok (.getfield 206, 3) := by decide +kernel
theorem dX7_joined_62 : decode cX7_joined 62 = .ok (.aload_n 3, 1) := by decide +kernel
theorem dX7_joined_63 : decode cX7_joined 63 = .ok (.getfield 209, 3) := by decide +kernel
theorem dX7_joined_66 : decode cX7_joined 66 = .ok (.if_icmp .le 5, 3) := by decide +kernel
theorem dX7_joined_69 : decode cX7_joined 69 = .ok (.iconst (-1), 1) := by decide +kernel
theorem dX7_joined_70 : decode cX7_joined 70 = .ok (.ireturn, 1) := by decide +kernel
theorem dX7_joined_71 : decode cX7_joined 71 = .ok (.aload_n 0, 1) := by decide +kernel
theorem dX7_joined_72 : decode cX7_joined 72 = .ok (.aload_n 3, 1) := by decide +kernel
theorem dX7_joined_73 : decode cX7_joined 73 = .ok (.invokevirtual 242, 3) := by decide +kernel
theorem dX7_joined_76 : decode cX7_joined 76 = .ok (.istore 5, 2) := by decide +kernel
theorem dX7_joined_78 : decode cX7_joined 78 = .ok (.aload_n 0, 1) := by decide +kernel
theorem dX7_joined_79 : decode cX7_joined 79 = .ok (.aload 4, 2) := by decide +kernel
theorem dX7_joined_81 : decode cX7_joined 81 = .ok (.invokevirtual 242, 3) := by decide +kernel
theorem dX7_joined_84 : decode cX7_joined 84 = .ok (.istore 6, 2) := by decide +kernel
theorem dX7_joined_86 : decode cX7_joined 86 = .ok (.iload 5, 2) := by decide +kernel
theorem dX7_joined_88 : decode cX7_joined 88 = .ok (.ifCond .eq 8, 3) := by decide +kernel
theorem dX7_joined_91 : decode cX7_joined 91 = .ok (.iload 6, 2) := by decide +kernel
theorem dX7_joined_93 : decode cX7_joined 93 = .ok (.ifCond .ne 5, 3) := by decide +kernel
theorem dX7_joined_96 : decode cX7_joined 96 = .ok (.iconst 0, 1) := by decide +kernel
theorem dX7_joined_97 : decode cX7_joined 97 = .ok (.ireturn, 1) := by decide +kernel
theorem dX7_joined_98 : decode cX7_joined 98 = .ok (.iload 5, 2) := by decide +kernel
theorem dX7_joined_100 : decode cX7_joined 100 = .ok (.iload 6, 2) := by decide +kernel
theorem dX7_joined_102 : decode cX7_joined 102 = .ok (.iand, 1) := by decide +kernel
theorem dX7_joined_103 : decode cX7_joined 103 = .ok (.ifCond .eq 7, 3) := by decide +kernel
theorem dX7_joined_106 : decode cX7_joined 106 = .ok (.iconst 2, 1) := by decide +kernel
theorem dX7_joined_107 : decode cX7_joined 107 = .ok (.goto 4, 3) := by decide +kernel
theorem dX7_joined_110 : decode cX7_joined 110 = .ok (.iconst 1, 1) := by decide +kernel
theorem dX7_joined_111 : decode cX7_joined 111 = .ok (.ireturn, 1) := by decide +kernel
set_option maxHeartbeats 4000000 in
set_option maxRecDepth 100000 in
theorem t_X7_joined {l : Launch} {g : zG} {d : Nat} {s : zS} (hR : zRok s) {p0 : Int32} {p1 : Int32} {K : Int32 → zS → Prop} (h : (zc l g d M_X7_isTelling [.ref 64, .int p0] s (zKz (fun b2 s1 => s1.2.2.1 = s.2.2.1 ∧ (if b2 = true then (zc l g d M_X7_isTelling [.ref 64, .int p1] s1 (zKz (fun b4 s3 => s3.2.2.1 = s1.2.2.1 ∧ (if b4 = true then (vp_in p0 60 ∧ (vp_in p1 60 ∧ (if (s3.1 (104 + p0.toNatClampNeg) 0) = (s3.1 (104 + p1.toNatClampNeg) 0) then K (-1 : Int32) s3 else (if (s3.1 (104 + p1.toNatClampNeg) 2) < (s3.1 (104 + p0.toNatClampNeg) 1) then K (-1 : Int32) s3 else (if (s3.1 (104 + p1.toNatClampNeg) 1) ≤ (s3.1 (104 + p0.toNatClampNeg) 2) then (zc l g d M_X7_fittingOf [.ref 64, .ref (104 + p0.toNatClampNeg)] s3 (zKi (fun r8 s7 => s7.2.2.1 = s3.2.2.1 ∧ (zc l g d M_X7_fittingOf [.ref 64, .ref (104 + p1.toNatClampNeg)] s7 (zKi (fun r10 s9 => s9.2.2.1 = s7.2.2.1 ∧ (if r8 = 0 then K (0 : Int32) s9 else (if r10 = 0 then K (0 : Int32) s9 else (if (r8 &&& r10) = 0 then K (1 : Int32) s9 else K (2 : Int32) s9))))))))) else K (-1 : Int32) s3))))) else K (-1 : Int32) s3)))) else K (-1 : Int32) s1))))) : zc l g (d + 1) M_X7_joined [.ref 64, .int p0, .int p1] s (zKi K) := by
  refine zCall_of k_X7_joined (Nat.le_of_ble_eq_true rfl) (Nat.le_refl _) (fun _ => ?_)
  show zt l g (d + 1) M_X7_joined 0 [.ref 64, .int p0, .int p1, zJ, zJ, zJ, zJ] [] s (zKi K)
  refine z_aload_n (i := 0) dX7_joined_0 rfl rfl rfl ?_
  refine z_iload_n (i := 1) dX7_joined_1 rfl rfl rfl ?_
  refine z_callV k_X7_isTelling m_X7_236 (zRec_of i_64) rfl h rfl (Nat.le_of_ble_eq_true rfl) dX7_joined_2 zy200 rfl ?_
  rintro v s1 ⟨b2, rfl, hRs1, h⟩
  show zt l g (d + 1) M_X7_joined 5 [.ref 64, .int p0, .int p1, zJ, zJ, zJ, zJ] [.int (zb b2)] s1 _
  refine z_ifb_eq (pt := 16) dX7_joined_5 (by decide) rfl (fun c => ?_) (fun c => ?_)
  · have h := zif h (by rw [c]; exact Bool.false_ne_true)
    refine z_iconst (v := (-1 : Int32)) dX7_joined_16 (by decide) rfl ?_
    exact z_ret (some (.int (-1 : Int32))) (Or.inr (Or.inl ⟨_, _, rfl, rfl, rfl, dX7_joined_17⟩)) zN200 ⟨_, rfl, h⟩
  · have h := zit h c
    refine z_aload_n (i := 0) dX7_joined_8 rfl rfl rfl ?_
    refine z_iload_n (i := 2) dX7_joined_9 rfl rfl rfl ?_
    refine z_callV k_X7_isTelling m_X7_236 (zRec_of i_64) rfl h rfl (Nat.le_of_ble_eq_true rfl) dX7_joined_10 zy200 rfl ?_
    rintro v s3 ⟨b4, rfl, hRs3, h⟩
    show zt l g (d + 1) M_X7_joined 13 [.ref 64, .int p0, .int p1, zJ, zJ, zJ, zJ] [.int (zb b4)] s3 _
    refine z_ifb_ne (pt := 18) dX7_joined_13 (by decide) rfl (fun c => ?_) (fun c => ?_)
    · have h := zit h c
      refine z_aload_n (i := 0) dX7_joined_18 rfl rfl rfl ?_
      refine z_getR (q := 71) f_X7_37 i_64 rfl (r_64_6 (zRok_of hRs3 (zRok_of hRs1 hR))) (by decide) dX7_joined_19 rfl ?_
      refine z_iload_n (i := 1) dX7_joined_22 rfl rfl rfl ?_
      obtain ⟨a5, h⟩ := h
      have wa5 := vin a5
      refine z_aald (q := 104 + p0.toNatClampNeg) (by decide) a_71 a5 (r_71 (zRok_of hRs3 (zRok_of hRs1 hR)) a5) (by omega) dX7_joined_23 rfl ?_
      refine z_astore_n (i := 3) dX7_joined_24 rfl (by decide) (zokd rfl) rfl ?_
      show zt l g (d + 1) M_X7_joined 25 [.ref 64, .int p0, .int p1, .ref (104 + p0.toNatClampNeg), zJ, zJ, zJ] [] s3 _
      refine z_aload_n (i := 0) dX7_joined_25 rfl rfl rfl ?_
      refine z_getR (q := 71) f_X7_37 i_64 rfl (r_64_6 (zRok_of hRs3 (zRok_of hRs1 hR))) (by decide) dX7_joined_26 rfl ?_
      refine z_iload_n (i := 2) dX7_joined_29 rfl rfl rfl ?_
      obtain ⟨a6, h⟩ := h
      have wa6 := vin a6
      refine z_aald (q := 104 + p1.toNatClampNeg) (by decide) a_71 a6 (r_71 (zRok_of hRs3 (zRok_of hRs1 hR)) a6) (by omega) dX7_joined_30 rfl ?_
      refine z_astore dX7_joined_31 (by decide) (zokd rfl) rfl ?_
      show zt l g (d + 1) M_X7_joined 33 [.ref 64, .int p0, .int p1, .ref (104 + p0.toNatClampNeg), .ref (104 + p1.toNatClampNeg), zJ, zJ] [] s3 _
      refine z_aload_n (i := 3) dX7_joined_33 rfl rfl rfl ?_
      refine z_getI (x := s3.1 (104 + p0.toNatClampNeg) 0) rfl f_X7_203 (i_Te (p_71 a5)) rfl dX7_joined_34 rfl ?_
      refine z_aload dX7_joined_37 rfl rfl ?_
      refine z_getI (x := s3.1 (104 + p1.toNatClampNeg) 0) rfl f_X7_203 (i_Te (p_71 a6)) rfl dX7_joined_39 rfl ?_
      refine z_icmp_eq (pt := 69) dX7_joined_42 (by decide) rfl (fun c => ?_) (fun c => ?_)
      · have h := zit h c
        refine z_iconst (v := (-1 : Int32)) dX7_joined_69 (by decide) rfl ?_
        exact z_ret (some (.int (-1 : Int32))) (Or.inr (Or.inl ⟨_, _, rfl, rfl, rfl, dX7_joined_70⟩)) zN200 ⟨_, rfl, h⟩
      · have h := zif h c
        refine z_aload_n (i := 3) dX7_joined_45 rfl rfl rfl ?_
        refine z_getI (x := s3.1 (104 + p0.toNatClampNeg) 1) rfl f_X7_206 (i_Te (p_71 a5)) rfl dX7_joined_46 rfl ?_
        refine z_aload dX7_joined_49 rfl rfl ?_
        refine z_getI (x := s3.1 (104 + p1.toNatClampNeg) 2) rfl f_X7_209 (i_Te (p_71 a6)) rfl dX7_joined_51 rfl ?_
        refine z_icmp_gt (pt := 69) dX7_joined_54 (by decide) rfl (fun c => ?_) (fun c => ?_)
        · have h := zit h c
          refine z_iconst (v := (-1 : Int32)) dX7_joined_69 (by decide) rfl ?_
          exact z_ret (some (.int (-1 : Int32))) (Or.inr (Or.inl ⟨_, _, rfl, rfl, rfl, dX7_joined_70⟩)) zN200 ⟨_, rfl, h⟩
        · have h := zif h c
          refine z_aload dX7_joined_57 rfl rfl ?_
          refine z_getI (x := s3.1 (104 + p1.toNatClampNeg) 1) rfl f_X7_206 (i_Te (p_71 a6)) rfl dX7_joined_59 rfl ?_
          refine z_aload_n (i := 3) dX7_joined_62 rfl rfl rfl ?_
          refine z_getI (x := s3.1 (104 + p0.toNatClampNeg) 2) rfl f_X7_209 (i_Te (p_71 a5)) rfl dX7_joined_63 rfl ?_
          refine z_icmp_le (pt := 71) dX7_joined_66 (by decide) rfl (fun c => ?_) (fun c => ?_)
          · have h := zit h c
            refine z_aload_n (i := 0) dX7_joined_71 rfl rfl rfl ?_
            refine z_aload_n (i := 3) dX7_joined_72 rfl rfl rfl ?_
            refine z_callV k_X7_fittingOf m_X7_242 (zRec_of i_64) rfl h rfl (Nat.le_of_ble_eq_true rfl) dX7_joined_73 zy200 rfl ?_
            rintro v s7 ⟨r8, rfl, hRs7, h⟩
            show zt l g (d + 1) M_X7_joined 76 [.ref 64, .int p0, .int p1, .ref (104 + p0.toNatClampNeg), .ref (104 + p1.toNatClampNeg), zJ, zJ] [.int r8] s7 _
            refine z_istore dX7_joined_76 (by decide) (zokd rfl) rfl ?_
            show zt l g (d + 1) M_X7_joined 78 [.ref 64, .int p0, .int p1, .ref (104 + p0.toNatClampNeg), .ref (104 + p1.toNatClampNeg), .int r8, zJ] [] s7 _
            refine z_aload_n (i := 0) dX7_joined_78 rfl rfl rfl ?_
            refine z_aload dX7_joined_79 rfl rfl ?_
            refine z_callV k_X7_fittingOf m_X7_242 (zRec_of i_64) rfl h rfl (Nat.le_of_ble_eq_true rfl) dX7_joined_81 zy200 rfl ?_
            rintro v s9 ⟨r10, rfl, hRs9, h⟩
            show zt l g (d + 1) M_X7_joined 84 [.ref 64, .int p0, .int p1, .ref (104 + p0.toNatClampNeg), .ref (104 + p1.toNatClampNeg), .int r8, zJ] [.int r10] s9 _
            refine z_istore dX7_joined_84 (by decide) (zokd rfl) rfl ?_
            show zt l g (d + 1) M_X7_joined 86 [.ref 64, .int p0, .int p1, .ref (104 + p0.toNatClampNeg), .ref (104 + p1.toNatClampNeg), .int r8, .int r10] [] s9 _
            refine z_iload dX7_joined_86 rfl rfl ?_
            refine z_if_eq (pt := 96) dX7_joined_88 (by decide) rfl (fun c => ?_) (fun c => ?_)
            · have h := zit h c
              refine z_iconst (v := (0 : Int32)) dX7_joined_96 (by decide) rfl ?_
              exact z_ret (some (.int (0 : Int32))) (Or.inr (Or.inl ⟨_, _, rfl, rfl, rfl, dX7_joined_97⟩)) zN200 ⟨_, rfl, h⟩
            · have h := zif h c
              refine z_iload dX7_joined_91 rfl rfl ?_
              refine z_if_ne (pt := 98) dX7_joined_93 (by decide) rfl (fun c => ?_) (fun c => ?_)
              · have h := zif h c
                refine z_iload dX7_joined_98 rfl rfl ?_
                refine z_iload dX7_joined_100 rfl rfl ?_
                refine z_iand dX7_joined_102 rfl ?_
                refine z_if_eq (pt := 110) dX7_joined_103 (by decide) rfl (fun c => ?_) (fun c => ?_)
                · have h := zit h c
                  refine z_iconst (v := (1 : Int32)) dX7_joined_110 (by decide) rfl ?_
                  exact z_ret (some (.int (1 : Int32))) (Or.inr (Or.inl ⟨_, _, rfl, rfl, rfl, dX7_joined_111⟩)) zN200 ⟨_, rfl, h⟩
                · have h := zif h c
                  refine z_iconst (v := (2 : Int32)) dX7_joined_106 (by decide) rfl ?_
                  refine z_goto (pn := 111) dX7_joined_107 (by decide) ?_
                  exact z_ret (some (.int (2 : Int32))) (Or.inr (Or.inl ⟨_, _, rfl, rfl, rfl, dX7_joined_111⟩)) zN200 ⟨_, rfl, h⟩
              · have h := zit h c
                refine z_iconst (v := (0 : Int32)) dX7_joined_96 (by decide) rfl ?_
                exact z_ret (some (.int (0 : Int32))) (Or.inr (Or.inl ⟨_, _, rfl, rfl, rfl, dX7_joined_97⟩)) zN200 ⟨_, rfl, h⟩
          · have h := zif h c
            refine z_iconst (v := (-1 : Int32)) dX7_joined_69 (by decide) rfl ?_
            exact z_ret (some (.int (-1 : Int32))) (Or.inr (Or.inl ⟨_, _, rfl, rfl, rfl, dX7_joined_70⟩)) zN200 ⟨_, rfl, h⟩
    · have h := zif h (by rw [c]; exact Bool.false_ne_true)
      refine z_iconst (v := (-1 : Int32)) dX7_joined_16 (by decide) rfl ?_
      exact z_ret (some (.int (-1 : Int32))) (Or.inr (Or.inl ⟨_, _, rfl, rfl, rfl, dX7_joined_17⟩)) zN200 ⟨_, rfl, h⟩
theorem dX7_cross_0 : decode cX7_cross 0 = .ok (.aload_n 0, 1) := by decide +kernel
theorem dX7_cross_1 : decode cX7_cross 1 = .ok (.iload_n 1, 1) := by decide +kernel
theorem dX7_cross_2 : decode cX7_cross 2 = .ok (.invokevirtual 236, 3) := by decide +kernel
theorem dX7_cross_5 : decode cX7_cross 5 = .ok (.ifCond .eq 11, 3) := by decide +kernel
theorem dX7_cross_8 : decode cX7_cross 8 = .ok (.aload_n 0, 1) := by decide +kernel
theorem dX7_cross_9 : decode cX7_cross 9 = .ok (.iload_n 2, 1) := by decide +kernel
theorem dX7_cross_10 : decode cX7_cross 10 = .ok (.invokevirtual 236, 3) := by decide +kernel
theorem dX7_cross_13 : decode cX7_cross 13 = .ok (.ifCond .ne 5, 3) := by decide +kernel
theorem dX7_cross_16 : decode cX7_cross 16 = .ok (.iconst (-1), 1) := by decide +kernel
theorem dX7_cross_17 : decode cX7_cross 17 = .ok (.ireturn, 1) := by decide +kernel
theorem dX7_cross_18 : decode cX7_cross 18 = .ok (.aload_n 0, 1) := by decide +kernel
theorem dX7_cross_19 : decode cX7_cross 19 = .ok (.getfield 37, 3) := by decide +kernel
theorem dX7_cross_22 : decode cX7_cross 22 = .ok (.iload_n 1, 1) := by decide +kernel
theorem dX7_cross_23 : decode cX7_cross 23 = .ok (.aaload, 1) := by decide +kernel
theorem dX7_cross_24 : decode cX7_cross 24 = .ok (.astore 4, 2) := by decide +kernel
theorem dX7_cross_26 : decode cX7_cross 26 = .ok (.aload_n 0, 1) := by decide +kernel
theorem dX7_cross_27 : decode cX7_cross 27 = .ok (.getfield 37, 3) := by decide +kernel
theorem dX7_cross_30 : decode cX7_cross 30 = .ok (.iload_n 2, 1) := by decide +kernel
theorem dX7_cross_31 : decode cX7_cross 31 = .ok (.aaload, 1) := by decide +kernel
theorem dX7_cross_32 : decode cX7_cross 32 = .ok (.astore 5, 2) := by decide +kernel
theorem dX7_cross_34 : decode cX7_cross 34 = .ok (.aload 4, 2) := by decide +kernel
theorem dX7_cross_36 : decode cX7_cross 36 = .ok (.getfield 203, 3) := by decide +kernel
theorem dX7_cross_39 : decode cX7_cross 39 = .ok (.aload 5, 2) := by decide +kernel
theorem dX7_cross_41 : decode cX7_cross 41 = .ok (.getfield 203, 3) := by decide +kernel
theorem dX7_cross_44 : decode cX7_cross 44 = .ok (.if_icmp .eq 16, 3) := by decide +kernel
theorem dX7_cross_47 : decode cX7_cross 47 = .ok (.aload 4, 2) := by decide +kernel
theorem dX7_cross_49 : decode cX7_cross 49 = .ok (.getfield 206, 3) := by decide +kernel
theorem dX7_cross_52 : decode cX7_cross 52 = .ok (.aload 5, 2) := by decide +kernel
theorem dX7_cross_54 : decode cX7_cross 54 = .ok (.getfield 206, 3) := by decide +kernel
theorem dX7_cross_57 : decode cX7_cross 57 = .ok (.if_icmp .eq 5, 3) := by decide +kernel
theorem dX7_cross_60 : decode cX7_cross 60 = .ok (.iconst (-1), 1) := by decide +kernel
theorem dX7_cross_61 : decode cX7_cross 61 = .ok (.ireturn, 1) := by decide +kernel
theorem dX7_cross_62 : decode cX7_cross 62 = .ok (.aload_n 0, 1) := by decide +kernel
theorem dX7_cross_63 : decode cX7_cross 63 = .ok (.getfield 60, 3) := by decide +kernel
theorem dX7_cross_66 : decode cX7_cross 66 = .ok (.invokevirtual 257, 3) := by decide +kernel
theorem dX7_cross_69 : decode cX7_cross 69 = .ok (.iconst 0, 1) := by decide +kernel
theorem dX7_cross_70 : decode cX7_cross 70 = .ok (.istore 6, 2) := by decide +kernel
theorem dX7_cross_72 : decode cX7_cross 72 = .ok (.iload 6, 2) := by decide +kernel
theorem dX7_cross_74 : decode cX7_cross 74 = .ok (.sipush 4096, 3) := by decide +kernel
theorem dX7_cross_77 : decode cX7_cross 77 = .ok (.if_icmp .ge 50, 3) := by decide +kernel
theorem dX7_cross_80 : decode cX7_cross 80 = .ok (.aload_n 0, 1) := by decide +kernel
theorem dX7_cross_81 : decode cX7_cross 81 = .ok (.aload 4, 2) := by decide +kernel
theorem dX7_cross_83 : decode cX7_cross 83 = .ok (.iload 6, 2) := by decide +kernel
theorem dX7_cross_85 : decode cX7_cross 85 = .ok (.invokevirtual 260, 3) := by decide +kernel
theorem dX7_cross_88 : decode cX7_cross 88 = .ok (.ifCond .eq 33, 3) := by decide +kernel
theorem dX7_cross_91 : decode cX7_cross 91 = .ok (.aload_n 0, 1) := by decide +kernel
theorem dX7_cross_92 : decode cX7_cross 92 = .ok (.aload 5, 2) := by decide +kernel
theorem dX7_cross_94 : decode cX7_cross 94 = .ok (.iload 6, 2) := by decide +kernel
theorem dX7_cross_96 : decode cX7_cross 96 = .ok (.invokevirtual 260, 3) := by decide +kernel
theorem dX7_cross_99 : decode cX7_cross 99 = .ok (.ifCond .eq 22, 3) := by decide +kernel
theorem dX7_cross_102 : decode cX7_cross 102 = .ok (.aload_n 0, 1) := by decide +kernel
theorem dX7_cross_103 : decode cX7_cross 103 = .ok (.getfield 60, 3) := by decide +kernel
theorem dX7_cross_106 : decode cX7_cross 106 = .ok (.iload 6, 2) := by decide +kernel
theorem dX7_cross_108 : decode cX7_cross 108 = .ok (.aload_n 0, 1) := by decide +kernel
theorem dX7_cross_109 : decode cX7_cross 109 = .ok (.aload 4, 2) := by decide +kernel
theorem dX7_cross_111 : decode cX7_cross 111 = .ok (.aload 5, 2) := by decide +kernel
theorem dX7_cross_113 : decode cX7_cross 113 = .ok (.iload 6, 2) := by decide +kernel
theorem dX7_cross_115 : decode cX7_cross 115 = .ok (.invokevirtual 264, 3) := by decide +kernel
theorem dX7_cross_118 : decode cX7_cross 118 = .ok (.invokevirtual 268, 3) := by decide +kernel
theorem dX7_cross_121 : decode cX7_cross 121 = .ok (.iinc 6 1, 3) := by decide +kernel
theorem dX7_cross_124 : decode cX7_cross 124 = .ok (.goto (-52), 3) := by decide +kernel
theorem dX7_cross_127 : decode cX7_cross 127 = .ok (.aload_n 0, 1) := by decide +kernel
theorem dX7_cross_128 : decode cX7_cross 128 = .ok (.getfield 60, 3) := by decide +kernel
theorem dX7_cross_131 : decode cX7_cross 131 = .ok (.iload_n 3, 1) := by decide +kernel
theorem dX7_cross_132 : decode cX7_cross 132 = .ok (.invokevirtual 272, 3) := by decide +kernel
theorem dX7_cross_135 : decode cX7_cross 135 = .ok (.ireturn, 1) := by decide +kernel
set_option maxHeartbeats 4000000 in
set_option maxRecDepth 100000 in
theorem t_X7_cross {l : Launch} {g : zG} {d : Nat} {s : zS} (hR : zRok s) {p0 : Int32} {p1 : Int32} {p2 : Int32} {K : Int32 → zS → Prop} (h : (zc l g d M_X7_isTelling [.ref 64, .int p0] s (zKz (fun b2 s1 => s1.2.2.1 = s.2.2.1 ∧ (if b2 = true then (zc l g d M_X7_isTelling [.ref 64, .int p1] s1 (zKz (fun b4 s3 => s3.2.2.1 = s1.2.2.1 ∧ (if b4 = true then (vp_in p0 60 ∧ (vp_in p1 60 ∧ (if (s3.1 (104 + p0.toNatClampNeg) 0) = (s3.1 (104 + p1.toNatClampNeg) 0) then K (-1 : Int32) s3 else (if (s3.1 (104 + p0.toNatClampNeg) 1) = (s3.1 (104 + p1.toNatClampNeg) 1) then (zc l g d M_X0_clear [.ref 74] s3 (zKv (fun s7 => s7.2.2.1 = s3.2.2.1 ∧ zt l g (d + 1) M_X7_cross 72 [.ref 64, zJ, zJ, .int p2, .ref (104 + p0.toNatClampNeg), .ref (104 + p1.toNatClampNeg), .int (0 : Int32)] [] s7 (zKi K)))) else K (-1 : Int32) s3)))) else K (-1 : Int32) s3)))) else K (-1 : Int32) s1))))) : zc l g (d + 1) M_X7_cross [.ref 64, .int p0, .int p1, .int p2] s (zKi K) := by
  refine zCall_of k_X7_cross (Nat.le_of_ble_eq_true rfl) (Nat.le_refl _) (fun _ => ?_)
  show zt l g (d + 1) M_X7_cross 0 [.ref 64, .int p0, .int p1, .int p2, zJ, zJ, zJ] [] s (zKi K)
  refine z_aload_n (i := 0) dX7_cross_0 rfl rfl rfl ?_
  refine z_iload_n (i := 1) dX7_cross_1 rfl rfl rfl ?_
  refine z_callV k_X7_isTelling m_X7_236 (zRec_of i_64) rfl h rfl (Nat.le_of_ble_eq_true rfl) dX7_cross_2 zy200 rfl ?_
  rintro v s1 ⟨b2, rfl, hRs1, h⟩
  show zt l g (d + 1) M_X7_cross 5 [.ref 64, .int p0, .int p1, .int p2, zJ, zJ, zJ] [.int (zb b2)] s1 _
  refine z_ifb_eq (pt := 16) dX7_cross_5 (by decide) rfl (fun c => ?_) (fun c => ?_)
  · have h := zif h (by rw [c]; exact Bool.false_ne_true)
    refine z_iconst (v := (-1 : Int32)) dX7_cross_16 (by decide) rfl ?_
    exact z_ret (some (.int (-1 : Int32))) (Or.inr (Or.inl ⟨_, _, rfl, rfl, rfl, dX7_cross_17⟩)) zN200 ⟨_, rfl, h⟩
  · have h := zit h c
    refine z_aload_n (i := 0) dX7_cross_8 rfl rfl rfl ?_
    refine z_iload_n (i := 2) dX7_cross_9 rfl rfl rfl ?_
    refine z_callV k_X7_isTelling m_X7_236 (zRec_of i_64) rfl h rfl (Nat.le_of_ble_eq_true rfl) dX7_cross_10 zy200 rfl ?_
    rintro v s3 ⟨b4, rfl, hRs3, h⟩
    show zt l g (d + 1) M_X7_cross 13 [.ref 64, .int p0, .int p1, .int p2, zJ, zJ, zJ] [.int (zb b4)] s3 _
    refine z_ifb_ne (pt := 18) dX7_cross_13 (by decide) rfl (fun c => ?_) (fun c => ?_)
    · have h := zit h c
      refine z_aload_n (i := 0) dX7_cross_18 rfl rfl rfl ?_
      refine z_getR (q := 71) f_X7_37 i_64 rfl (r_64_6 (zRok_of hRs3 (zRok_of hRs1 hR))) (by decide) dX7_cross_19 rfl ?_
      refine z_iload_n (i := 1) dX7_cross_22 rfl rfl rfl ?_
      obtain ⟨a5, h⟩ := h
      have wa5 := vin a5
      refine z_aald (q := 104 + p0.toNatClampNeg) (by decide) a_71 a5 (r_71 (zRok_of hRs3 (zRok_of hRs1 hR)) a5) (by omega) dX7_cross_23 rfl ?_
      refine z_astore dX7_cross_24 (by decide) (zokd rfl) rfl ?_
      show zt l g (d + 1) M_X7_cross 26 [.ref 64, .int p0, .int p1, .int p2, .ref (104 + p0.toNatClampNeg), zJ, zJ] [] s3 _
      refine z_aload_n (i := 0) dX7_cross_26 rfl rfl rfl ?_
      refine z_getR (q := 71) f_X7_37 i_64 rfl (r_64_6 (zRok_of hRs3 (zRok_of hRs1 hR))) (by decide) dX7_cross_27 rfl ?_
      refine z_iload_n (i := 2) dX7_cross_30 rfl rfl rfl ?_
      obtain ⟨a6, h⟩ := h
      have wa6 := vin a6
      refine z_aald (q := 104 + p1.toNatClampNeg) (by decide) a_71 a6 (r_71 (zRok_of hRs3 (zRok_of hRs1 hR)) a6) (by omega) dX7_cross_31 rfl ?_
      refine z_astore dX7_cross_32 (by decide) (zokd rfl) rfl ?_
      show zt l g (d + 1) M_X7_cross 34 [.ref 64, .int p0, .int p1, .int p2, .ref (104 + p0.toNatClampNeg), .ref (104 + p1.toNatClampNeg), zJ] [] s3 _
      refine z_aload dX7_cross_34 rfl rfl ?_
      refine z_getI (x := s3.1 (104 + p0.toNatClampNeg) 0) rfl f_X7_203 (i_Te (p_71 a5)) rfl dX7_cross_36 rfl ?_
      refine z_aload dX7_cross_39 rfl rfl ?_
      refine z_getI (x := s3.1 (104 + p1.toNatClampNeg) 0) rfl f_X7_203 (i_Te (p_71 a6)) rfl dX7_cross_41 rfl ?_
      refine z_icmp_eq (pt := 60) dX7_cross_44 (by decide) rfl (fun c => ?_) (fun c => ?_)
      · have h := zit h c
        refine z_iconst (v := (-1 : Int32)) dX7_cross_60 (by decide) rfl ?_
        exact z_ret (some (.int (-1 : Int32))) (Or.inr (Or.inl ⟨_, _, rfl, rfl, rfl, dX7_cross_61⟩)) zN200 ⟨_, rfl, h⟩
      · have h := zif h c
        refine z_aload dX7_cross_47 rfl rfl ?_
        refine z_getI (x := s3.1 (104 + p0.toNatClampNeg) 1) rfl f_X7_206 (i_Te (p_71 a5)) rfl dX7_cross_49 rfl ?_
        refine z_aload dX7_cross_52 rfl rfl ?_
        refine z_getI (x := s3.1 (104 + p1.toNatClampNeg) 1) rfl f_X7_206 (i_Te (p_71 a6)) rfl dX7_cross_54 rfl ?_
        refine z_icmp_eq (pt := 62) dX7_cross_57 (by decide) rfl (fun c => ?_) (fun c => ?_)
        · have h := zit h c
          refine z_aload_n (i := 0) dX7_cross_62 rfl rfl rfl ?_
          refine z_getR (q := 74) f_X7_60 i_64 rfl (r_64_13 (zRok_of hRs3 (zRok_of hRs1 hR))) (by decide) dX7_cross_63 rfl ?_
          refine z_callV k_X0_clear m_X7_257 (zRec_of i_74) rfl h rfl (Nat.le_of_ble_eq_true rfl) dX7_cross_66 zy200 rfl ?_
          rintro v s7 ⟨rfl, hRs7, h⟩
          show zt l g (d + 1) M_X7_cross 69 [.ref 64, .int p0, .int p1, .int p2, .ref (104 + p0.toNatClampNeg), .ref (104 + p1.toNatClampNeg), zJ] [] s7 _
          refine z_iconst (v := (0 : Int32)) dX7_cross_69 (by decide) rfl ?_
          refine z_istore dX7_cross_70 (by decide) (zokd rfl) rfl ?_
          show zt l g (d + 1) M_X7_cross 72 [.ref 64, .int p0, .int p1, .int p2, .ref (104 + p0.toNatClampNeg), .ref (104 + p1.toNatClampNeg), .int (0 : Int32)] [] s7 _
          refine z_wk (ls' := [.ref 64, zJ, zJ, .int p2, .ref (104 + p0.toNatClampNeg), .ref (104 + p1.toNatClampNeg), .int (0 : Int32)]) ⟨Or.inr rfl, Or.inl rfl, Or.inl rfl, Or.inr rfl, Or.inr rfl, Or.inr rfl, Or.inr rfl, trivial⟩ ?_
          exact h
        · have h := zif h c
          refine z_iconst (v := (-1 : Int32)) dX7_cross_60 (by decide) rfl ?_
          exact z_ret (some (.int (-1 : Int32))) (Or.inr (Or.inl ⟨_, _, rfl, rfl, rfl, dX7_cross_61⟩)) zN200 ⟨_, rfl, h⟩
    · have h := zif h (by rw [c]; exact Bool.false_ne_true)
      refine z_iconst (v := (-1 : Int32)) dX7_cross_16 (by decide) rfl ?_
      exact z_ret (some (.int (-1 : Int32))) (Or.inr (Or.inl ⟨_, _, rfl, rfl, rfl, dX7_cross_17⟩)) zN200 ⟨_, rfl, h⟩
set_option maxHeartbeats 4000000 in
set_option maxRecDepth 100000 in
theorem t_X7_cross_72 {l : Launch} {g : zG} {d : Nat} {s : zS} (hR : zRok s) {x3 : Int32} {x4 : Nat} (hx4 : 104 ≤ x4 ∧ x4 < 164) {x5 : Nat} (hx5 : 104 ≤ x5 ∧ x5 < 164) {x6 : Int32} {K : Int32 → zS → Prop} (h : (if (4096 : Int32) ≤ x6 then (zc l g d M_X0_part [.ref 74, .int x3] s (zKi (fun r2 s1 => s1.2.2.1 = s.2.2.1 ∧ K r2 s1))) else (zc l g d M_X7_pointsAt [.ref 64, .ref x4, .int x6] s (zKz (fun b4 s3 => s3.2.2.1 = s.2.2.1 ∧ (if b4 = true then (zc l g d M_X7_pointsAt [.ref 64, .ref x5, .int x6] s3 (zKz (fun b6 s5 => s5.2.2.1 = s3.2.2.1 ∧ (if b6 = true then (zc l g d M_X7_shareHeight [.ref 64, .ref x4, .ref x5, .int x6] s5 (zKz (fun b8 s7 => s7.2.2.1 = s5.2.2.1 ∧ (zc l g d M_X0_add [.ref 74, .int x6, .int (zb b8)] s7 (zKv (fun s9 => s9.2.2.1 = s7.2.2.1 ∧ zt l g (d + 1) M_X7_cross 72 [.ref 64, zJ, zJ, .int x3, .ref x4, .ref x5, .int (x6 + (1 : Int32))] [] s9 (zKi K))))))) else zt l g (d + 1) M_X7_cross 72 [.ref 64, zJ, zJ, .int x3, .ref x4, .ref x5, .int (x6 + (1 : Int32))] [] s5 (zKi K))))) else zt l g (d + 1) M_X7_cross 72 [.ref 64, zJ, zJ, .int x3, .ref x4, .ref x5, .int (x6 + (1 : Int32))] [] s3 (zKi K))))))) : zt l g (d + 1) M_X7_cross 72 [.ref 64, zJ, zJ, .int x3, .ref x4, .ref x5, .int x6] [] s (zKi K) := by
  refine z_iload dX7_cross_72 rfl rfl ?_
  refine z_sipush (v := (4096 : Int32)) dX7_cross_74 (by decide) rfl ?_
  refine z_icmp_ge (pt := 127) dX7_cross_77 (by decide) rfl (fun c => ?_) (fun c => ?_)
  · have h := zit h c
    refine z_aload_n (i := 0) dX7_cross_127 rfl rfl rfl ?_
    refine z_getR (q := 74) f_X7_60 i_64 rfl (r_64_13 hR) (by decide) dX7_cross_128 rfl ?_
    refine z_iload_n (i := 3) dX7_cross_131 rfl rfl rfl ?_
    refine z_callV k_X0_part m_X7_272 (zRec_of i_74) rfl h rfl (Nat.le_of_ble_eq_true rfl) dX7_cross_132 zy200 rfl ?_
    rintro v s1 ⟨r2, rfl, hRs1, h⟩
    show zt l g (d + 1) M_X7_cross 135 [.ref 64, zJ, zJ, .int x3, .ref x4, .ref x5, .int x6] [.int r2] s1 _
    exact z_ret (some (.int r2)) (Or.inr (Or.inl ⟨_, _, rfl, rfl, rfl, dX7_cross_135⟩)) zN200 ⟨_, rfl, h⟩
  · have h := zif h c
    refine z_aload_n (i := 0) dX7_cross_80 rfl rfl rfl ?_
    refine z_aload dX7_cross_81 rfl rfl ?_
    refine z_iload dX7_cross_83 rfl rfl ?_
    refine z_callV k_X7_pointsAt m_X7_260 (zRec_of i_64) rfl h rfl (Nat.le_of_ble_eq_true rfl) dX7_cross_85 zy200 rfl ?_
    rintro v s3 ⟨b4, rfl, hRs3, h⟩
    show zt l g (d + 1) M_X7_cross 88 [.ref 64, zJ, zJ, .int x3, .ref x4, .ref x5, .int x6] [.int (zb b4)] s3 _
    refine z_ifb_eq (pt := 121) dX7_cross_88 (by decide) rfl (fun c => ?_) (fun c => ?_)
    · have h := zif h (by rw [c]; exact Bool.false_ne_true)
      refine z_iinc (v := x6 + (1 : Int32)) dX7_cross_121 rfl rfl (by decide) (zokd rfl) rfl ?_
      show zt l g (d + 1) M_X7_cross 124 [.ref 64, zJ, zJ, .int x3, .ref x4, .ref x5, .int (x6 + (1 : Int32))] [] s3 _
      refine z_goto (pn := 72) dX7_cross_124 (by decide) ?_
      exact h
    · have h := zit h c
      refine z_aload_n (i := 0) dX7_cross_91 rfl rfl rfl ?_
      refine z_aload dX7_cross_92 rfl rfl ?_
      refine z_iload dX7_cross_94 rfl rfl ?_
      refine z_callV k_X7_pointsAt m_X7_260 (zRec_of i_64) rfl h rfl (Nat.le_of_ble_eq_true rfl) dX7_cross_96 zy200 rfl ?_
      rintro v s5 ⟨b6, rfl, hRs5, h⟩
      show zt l g (d + 1) M_X7_cross 99 [.ref 64, zJ, zJ, .int x3, .ref x4, .ref x5, .int x6] [.int (zb b6)] s5 _
      refine z_ifb_eq (pt := 121) dX7_cross_99 (by decide) rfl (fun c => ?_) (fun c => ?_)
      · have h := zif h (by rw [c]; exact Bool.false_ne_true)
        refine z_iinc (v := x6 + (1 : Int32)) dX7_cross_121 rfl rfl (by decide) (zokd rfl) rfl ?_
        show zt l g (d + 1) M_X7_cross 124 [.ref 64, zJ, zJ, .int x3, .ref x4, .ref x5, .int (x6 + (1 : Int32))] [] s5 _
        refine z_goto (pn := 72) dX7_cross_124 (by decide) ?_
        exact h
      · have h := zit h c
        refine z_aload_n (i := 0) dX7_cross_102 rfl rfl rfl ?_
        refine z_getR (q := 74) f_X7_60 i_64 rfl (r_64_13 (zRok_of hRs5 (zRok_of hRs3 hR))) (by decide) dX7_cross_103 rfl ?_
        refine z_iload dX7_cross_106 rfl rfl ?_
        refine z_aload_n (i := 0) dX7_cross_108 rfl rfl rfl ?_
        refine z_aload dX7_cross_109 rfl rfl ?_
        refine z_aload dX7_cross_111 rfl rfl ?_
        refine z_iload dX7_cross_113 rfl rfl ?_
        refine z_callV k_X7_shareHeight m_X7_264 (zRec_of i_64) rfl h rfl (Nat.le_of_ble_eq_true rfl) dX7_cross_115 zy200 rfl ?_
        rintro v s7 ⟨b8, rfl, hRs7, h⟩
        show zt l g (d + 1) M_X7_cross 118 [.ref 64, zJ, zJ, .int x3, .ref x4, .ref x5, .int x6] [.int (zb b8), .int x6, .ref 74] s7 _
        refine z_callV k_X0_add m_X7_268 (zRec_of i_74) rfl h rfl (Nat.le_of_ble_eq_true rfl) dX7_cross_118 zy200 rfl ?_
        rintro v s9 ⟨rfl, hRs9, h⟩
        show zt l g (d + 1) M_X7_cross 121 [.ref 64, zJ, zJ, .int x3, .ref x4, .ref x5, .int x6] [] s9 _
        refine z_iinc (v := x6 + (1 : Int32)) dX7_cross_121 rfl rfl (by decide) (zokd rfl) rfl ?_
        show zt l g (d + 1) M_X7_cross 124 [.ref 64, zJ, zJ, .int x3, .ref x4, .ref x5, .int (x6 + (1 : Int32))] [] s9 _
        refine z_goto (pn := 72) dX7_cross_124 (by decide) ?_
        exact h
theorem dX7_out_0 : decode cX7_out 0 = .ok (.aload_n 0, 1) := by decide +kernel
theorem dX7_out_1 : decode cX7_out 1 = .ok (.iload_n 1, 1) := by decide +kernel
theorem dX7_out_2 : decode cX7_out 2 = .ok (.invokevirtual 157, 3) := by decide +kernel
theorem dX7_out_5 : decode cX7_out 5 = .ok (.ifCond .eq 24, 3) := by decide +kernel
theorem dX7_out_8 : decode cX7_out 8 = .ok (.aload_n 0, 1) := by decide +kernel
theorem dX7_out_9 : decode cX7_out 9 = .ok (.iload_n 2, 1) := by decide +kernel
theorem dX7_out_10 : decode cX7_out 10 = .ok (.invokevirtual 181, 3) := by decide +kernel
theorem dX7_out_13 : decode cX7_out 13 = .ok (.ifCond .eq 16, 3) := by decide +kernel
theorem dX7_out_16 : decode cX7_out 16 = .ok (.aload_n 0, 1) := by decide +kernel
theorem dX7_out_17 : decode cX7_out 17 = .ok (.getfield 31, 3) := by decide +kernel
theorem dX7_out_20 : decode cX7_out 20 = .ok (.iload_n 1, 1) := by decide +kernel
theorem dX7_out_21 : decode cX7_out 21 = .ok (.aaload, 1) := by decide +kernel
theorem dX7_out_22 : decode cX7_out 22 = .ok (.getfield 164, 3) := by decide +kernel
theorem dX7_out_25 : decode cX7_out 25 = .ok (.iconst 2, 1) := by decide +kernel
theorem dX7_out_26 : decode cX7_out 26 = .ok (.if_icmp .eq 5, 3) := by decide +kernel
theorem dX7_out_29 : decode cX7_out 29 = .ok (.iconst (-1), 1) := by decide +kernel
theorem dX7_out_30 : decode cX7_out 30 = .ok (.ireturn, 1) := by decide +kernel
theorem dX7_out_31 : decode cX7_out 31 = .ok (.aload_n 0, 1) := by decide +kernel
theorem dX7_out_32 : decode cX7_out 32 = .ok (.getfield 31, 3) := by decide +kernel
theorem dX7_out_35 : decode cX7_out 35 = .ok (.iload_n 1, 1) := by decide +kernel
theorem dX7_out_36 : decode cX7_out 36 = .ok (.aaload, 1) := by decide +kernel
theorem dX7_out_37 : decode cX7_out 37 = .ok (.astore_n 3, 1) := by decide +kernel
theorem dX7_out_38 : decode cX7_out 38 = .ok (.iconst 0, 1) := by decide +kernel
theorem dX7_out_39 : decode cX7_out 39 = .ok (.istore 4, 2) := by decide +kernel
theorem dX7_out_41 : decode cX7_out 41 = .ok (.aload_n 3, 1) := by decide +kernel
theorem dX7_out_42 : decode cX7_out 42 = .ok (.getfield 273, 3) := by decide +kernel
theorem dX7_out_45 : decode cX7_out 45 = .ok (.istore 5, 2) := by decide +kernel
theorem dX7_out_47 : decode cX7_out 47 = .ok (.iload 5, 2) := by decide +kernel
theorem dX7_out_49 : decode cX7_out 49 = .ok (.aload_n 3, 1) := by decide +kernel
theorem dX7_out_50 : decode cX7_out 50 = .ok (.getfield 274, 3) := by decide +kernel
theorem dX7_out_53 : decode cX7_out 53 = .ok (.if_icmp .gt 44, 3) := by decide +kernel
theorem dX7_out_56 : decode cX7_out 56 = .ok (.aload_n 0, 1) := by decide +kernel
theorem dX7_out_57 : decode cX7_out 57 = .ok (.getfield 21, 3) := by decide +kernel
theorem dX7_out_60 : decode cX7_out 60 = .ok (.aload_n 3, 1) := by decide +kernel
theorem dX7_out_61 : decode cX7_out 61 = .ok (.aload_n 0, 1) := by decide +kernel
theorem dX7_out_62 : decode cX7_out 62 = .ok (.getfield 25, 3) := by decide +kernel
theorem dX7_out_65 : decode cX7_out 65 = .ok (.iload_n 2, 1) := by decide +kernel
theorem dX7_out_66 : decode cX7_out 66 = .ok (.iaload, 1) := by decide +kernel
theorem dX7_out_67 : decode cX7_out 67 = .ok (.iload 5, 2) := by decide +kernel
theorem dX7_out_69 : decode cX7_out 69 = .ok (.invokevirtual 275, 3) := by decide +kernel
theorem dX7_out_72 : decode cX7_out 72 = .ok (.istore 6, 2) := by decide +kernel
theorem dX7_out_74 : decode cX7_out 74 = .ok (.iload 4, 2) := by decide +kernel
theorem dX7_out_76 : decode cX7_out 76 = .ok (.ifCond .eq 11, 3) := by decide +kernel
theorem dX7_out_79 : decode cX7_out 79 = .ok (.iload 6, 2) := by decide +kernel
theorem dX7_out_81 : decode cX7_out 81 = .ok (.ifCond .ne 6, 3) := by decide +kernel
theorem dX7_out_84 : decode cX7_out 84 = .ok (.iload 5, 2) := by decide +kernel
theorem dX7_out_86 : decode cX7_out 86 = .ok (.ireturn, 1) := by decide +kernel
theorem dX7_out_87 : decode cX7_out 87 = .ok (.iload 6, 2) := by decide +kernel
theorem dX7_out_89 : decode cX7_out 89 = .ok (.istore 4, 2) := by decide +kernel
theorem dX7_out_91 : decode cX7_out 91 = .ok (.iinc 5 1, 3) := by decide +kernel
theorem dX7_out_94 : decode cX7_out 94 = .ok (.goto (-47), 3) := by decide +kernel
theorem dX7_out_97 : decode cX7_out 97 = .ok (.iload 4, 2) := by decide +kernel
theorem dX7_out_99 : decode cX7_out 99 = .ok (.ifCond .eq 12, 3) := by decide +kernel
theorem dX7_out_102 : decode cX7_out 102 = .ok (.aload_n 3, 1) := by decide +kernel
theorem dX7_out_103 : decode cX7_out 103 = .ok (.getfield 274, 3) := by decide +kernel
theorem dX7_out_106 : decode cX7_out 106 = .ok (.iconst 1, 1) := by decide +kernel
theorem dX7_out_107 : decode cX7_out 107 = .ok (.iadd, 1) := by decide +kernel
theorem dX7_out_108 : decode cX7_out 108 = .ok (.goto 4, 3) := by decide +kernel
theorem dX7_out_111 : decode cX7_out 111 = .ok (.iconst (-1), 1) := by decide +kernel
theorem dX7_out_112 : decode cX7_out 112 = .ok (.ireturn, 1) := by decide +kernel
set_option maxHeartbeats 4000000 in
set_option maxRecDepth 100000 in
theorem t_X7_out {l : Launch} {g : zG} {d : Nat} {s : zS} (hR : zRok s) {p0 : Int32} {p1 : Int32} {K : Int32 → zS → Prop} (h : (zc l g d M_X7_isThing [.ref 64, .int p0] s (zKz (fun b2 s1 => s1.2.2.1 = s.2.2.1 ∧ (if b2 = true then (zc l g d M_X7_isSeer [.ref 64, .int p1] s1 (zKz (fun b4 s3 => s3.2.2.1 = s1.2.2.1 ∧ (if b4 = true then (vp_in p0 12 ∧ (if (s3.1 (92 + p0.toNatClampNeg) 0) = (2 : Int32) then (vp_in p0 12 ∧ (∀ v7 : Int32, v7 = s3.1 (92 + p0.toNatClampNeg) 1 → zt l g (d + 1) M_X7_out 47 [.ref 64, zJ, .int p1, .ref (92 + p0.toNatClampNeg), .int (0 : Int32), .int v7, zJ] [] s3 (zKi K))) else K (-1 : Int32) s3)) else K (-1 : Int32) s3)))) else K (-1 : Int32) s1))))) : zc l g (d + 1) M_X7_out [.ref 64, .int p0, .int p1] s (zKi K) := by
  refine zCall_of k_X7_out (Nat.le_of_ble_eq_true rfl) (Nat.le_refl _) (fun _ => ?_)
  show zt l g (d + 1) M_X7_out 0 [.ref 64, .int p0, .int p1, zJ, zJ, zJ, zJ] [] s (zKi K)
  refine z_aload_n (i := 0) dX7_out_0 rfl rfl rfl ?_
  refine z_iload_n (i := 1) dX7_out_1 rfl rfl rfl ?_
  refine z_callV k_X7_isThing m_X7_157 (zRec_of i_64) rfl h rfl (Nat.le_of_ble_eq_true rfl) dX7_out_2 zy200 rfl ?_
  rintro v s1 ⟨b2, rfl, hRs1, h⟩
  show zt l g (d + 1) M_X7_out 5 [.ref 64, .int p0, .int p1, zJ, zJ, zJ, zJ] [.int (zb b2)] s1 _
  refine z_ifb_eq (pt := 29) dX7_out_5 (by decide) rfl (fun c => ?_) (fun c => ?_)
  · have h := zif h (by rw [c]; exact Bool.false_ne_true)
    refine z_iconst (v := (-1 : Int32)) dX7_out_29 (by decide) rfl ?_
    exact z_ret (some (.int (-1 : Int32))) (Or.inr (Or.inl ⟨_, _, rfl, rfl, rfl, dX7_out_30⟩)) zN200 ⟨_, rfl, h⟩
  · have h := zit h c
    refine z_aload_n (i := 0) dX7_out_8 rfl rfl rfl ?_
    refine z_iload_n (i := 2) dX7_out_9 rfl rfl rfl ?_
    refine z_callV k_X7_isSeer m_X7_181 (zRec_of i_64) rfl h rfl (Nat.le_of_ble_eq_true rfl) dX7_out_10 zy200 rfl ?_
    rintro v s3 ⟨b4, rfl, hRs3, h⟩
    show zt l g (d + 1) M_X7_out 13 [.ref 64, .int p0, .int p1, zJ, zJ, zJ, zJ] [.int (zb b4)] s3 _
    refine z_ifb_eq (pt := 29) dX7_out_13 (by decide) rfl (fun c => ?_) (fun c => ?_)
    · have h := zif h (by rw [c]; exact Bool.false_ne_true)
      refine z_iconst (v := (-1 : Int32)) dX7_out_29 (by decide) rfl ?_
      exact z_ret (some (.int (-1 : Int32))) (Or.inr (Or.inl ⟨_, _, rfl, rfl, rfl, dX7_out_30⟩)) zN200 ⟨_, rfl, h⟩
    · have h := zit h c
      refine z_aload_n (i := 0) dX7_out_16 rfl rfl rfl ?_
      refine z_getR (q := 70) f_X7_31 i_64 rfl (r_64_4 (zRok_of hRs3 (zRok_of hRs1 hR))) (by decide) dX7_out_17 rfl ?_
      refine z_iload_n (i := 1) dX7_out_20 rfl rfl rfl ?_
      obtain ⟨a5, h⟩ := h
      have wa5 := vin a5
      refine z_aald (q := 92 + p0.toNatClampNeg) (by decide) a_70 a5 (r_70 (zRok_of hRs3 (zRok_of hRs1 hR)) a5) (by omega) dX7_out_21 rfl ?_
      refine z_getI (x := s3.1 (92 + p0.toNatClampNeg) 0) rfl f_X7_164 (i_Th (p_70 a5)) rfl dX7_out_22 rfl ?_
      refine z_iconst (v := (2 : Int32)) dX7_out_25 (by decide) rfl ?_
      refine z_icmp_eq (pt := 31) dX7_out_26 (by decide) rfl (fun c => ?_) (fun c => ?_)
      · have h := zit h c
        refine z_aload_n (i := 0) dX7_out_31 rfl rfl rfl ?_
        refine z_getR (q := 70) f_X7_31 i_64 rfl (r_64_4 (zRok_of hRs3 (zRok_of hRs1 hR))) (by decide) dX7_out_32 rfl ?_
        refine z_iload_n (i := 1) dX7_out_35 rfl rfl rfl ?_
        obtain ⟨a6, h⟩ := h
        have wa6 := vin a6
        refine z_aald (q := 92 + p0.toNatClampNeg) (by decide) a_70 a6 (r_70 (zRok_of hRs3 (zRok_of hRs1 hR)) a6) (by omega) dX7_out_36 rfl ?_
        refine z_astore_n (i := 3) dX7_out_37 rfl (by decide) (zokd rfl) rfl ?_
        show zt l g (d + 1) M_X7_out 38 [.ref 64, .int p0, .int p1, .ref (92 + p0.toNatClampNeg), zJ, zJ, zJ] [] s3 _
        refine z_iconst (v := (0 : Int32)) dX7_out_38 (by decide) rfl ?_
        refine z_istore dX7_out_39 (by decide) (zokd rfl) rfl ?_
        show zt l g (d + 1) M_X7_out 41 [.ref 64, .int p0, .int p1, .ref (92 + p0.toNatClampNeg), .int (0 : Int32), zJ, zJ] [] s3 _
        refine z_aload_n (i := 3) dX7_out_41 rfl rfl rfl ?_
        refine z_getI (x := s3.1 (92 + p0.toNatClampNeg) 1) rfl f_X7_273 (i_Th (p_70 a6)) rfl dX7_out_42 rfl ?_
        refine z_istore dX7_out_45 (by decide) (zokd rfl) rfl ?_
        obtain ⟨v7, ev7⟩ : ∃ x : Int32, x = s3.1 (92 + p0.toNatClampNeg) 1 := ⟨_, rfl⟩
        rw [← ev7]
        have h := h v7 ev7
        show zt l g (d + 1) M_X7_out 47 [.ref 64, .int p0, .int p1, .ref (92 + p0.toNatClampNeg), .int (0 : Int32), .int v7, zJ] [] s3 _
        refine z_wk (ls' := [.ref 64, zJ, .int p1, .ref (92 + p0.toNatClampNeg), .int (0 : Int32), .int v7, zJ]) ⟨Or.inr rfl, Or.inl rfl, Or.inr rfl, Or.inr rfl, Or.inr rfl, Or.inr rfl, Or.inr rfl, trivial⟩ ?_
        exact h
      · have h := zif h c
        refine z_iconst (v := (-1 : Int32)) dX7_out_29 (by decide) rfl ?_
        exact z_ret (some (.int (-1 : Int32))) (Or.inr (Or.inl ⟨_, _, rfl, rfl, rfl, dX7_out_30⟩)) zN200 ⟨_, rfl, h⟩
set_option maxHeartbeats 4000000 in
set_option maxRecDepth 100000 in
theorem t_X7_out_47 {l : Launch} {g : zG} {d : Nat} {s : zS} (hR : zRok s) {x2 : Int32} {x3 : Nat} (hx3 : 92 ≤ x3 ∧ x3 < 104) {x4 : Int32} {x5 : Int32} {K : Int32 → zS → Prop} (h : (if (s.1 x3 2) < x5 then (if x4 = 0 then K (-1 : Int32) s else K ((s.1 x3 2) + (1 : Int32)) s) else (vp_in x2 20 ∧ (zc l g d M_X4_shows [.ref 68, .ref x3, .int (s.1 69 x2.toNatClampNeg), .int x5] s (zKz (fun b3 s2 => s2.2.2.1 = s.2.2.1 ∧ (if x4 = 0 then zt l g (d + 1) M_X7_out 47 [.ref 64, zJ, .int x2, .ref x3, .int (zb b3), .int (x5 + (1 : Int32)), zJ] [] s2 (zKi K) else (if b3 = true then zt l g (d + 1) M_X7_out 47 [.ref 64, zJ, .int x2, .ref x3, .int (zb b3), .int (x5 + (1 : Int32)), zJ] [] s2 (zKi K) else K x5 s2)))))))) : zt l g (d + 1) M_X7_out 47 [.ref 64, zJ, .int x2, .ref x3, .int x4, .int x5, zJ] [] s (zKi K) := by
  refine z_iload dX7_out_47 rfl rfl ?_
  refine z_aload_n (i := 3) dX7_out_49 rfl rfl rfl ?_
  refine z_getI (x := s.1 x3 2) rfl f_X7_274 (i_Th hx3) rfl dX7_out_50 rfl ?_
  refine z_icmp_gt (pt := 97) dX7_out_53 (by decide) rfl (fun c => ?_) (fun c => ?_)
  · have h := zit h c
    refine z_iload dX7_out_97 rfl rfl ?_
    refine z_if_eq (pt := 111) dX7_out_99 (by decide) rfl (fun c => ?_) (fun c => ?_)
    · have h := zit h c
      refine z_iconst (v := (-1 : Int32)) dX7_out_111 (by decide) rfl ?_
      exact z_ret (some (.int (-1 : Int32))) (Or.inr (Or.inl ⟨_, _, rfl, rfl, rfl, dX7_out_112⟩)) zN200 ⟨_, rfl, h⟩
    · have h := zif h c
      refine z_aload_n (i := 3) dX7_out_102 rfl rfl rfl ?_
      refine z_getI (x := s.1 x3 2) rfl f_X7_274 (i_Th hx3) rfl dX7_out_103 rfl ?_
      refine z_iconst (v := (1 : Int32)) dX7_out_106 (by decide) rfl ?_
      refine z_iadd dX7_out_107 rfl ?_
      refine z_goto (pn := 112) dX7_out_108 (by decide) ?_
      exact z_ret (some (.int ((s.1 x3 2) + (1 : Int32)))) (Or.inr (Or.inl ⟨_, _, rfl, rfl, rfl, dX7_out_112⟩)) zN200 ⟨_, rfl, h⟩
  · have h := zif h c
    refine z_aload_n (i := 0) dX7_out_56 rfl rfl rfl ?_
    refine z_getR (q := 68) f_X7_21 i_64 rfl (r_64_1 hR) (by decide) dX7_out_57 rfl ?_
    refine z_aload_n (i := 3) dX7_out_60 rfl rfl rfl ?_
    refine z_aload_n (i := 0) dX7_out_61 rfl rfl rfl ?_
    refine z_getR (q := 69) f_X7_25 i_64 rfl (r_64_2 hR) (by decide) dX7_out_62 rfl ?_
    refine z_iload_n (i := 2) dX7_out_65 rfl rfl rfl ?_
    obtain ⟨a1, h⟩ := h
    have wa1 := vin a1
    refine z_iald (x := s.1 69 x2.toNatClampNeg) rfl a_69 a1 dX7_out_66 rfl ?_
    refine z_iload dX7_out_67 rfl rfl ?_
    refine z_callV k_X4_shows m_X7_275 (zRec_of i_68) rfl h rfl (Nat.le_of_ble_eq_true rfl) dX7_out_69 zy200 rfl ?_
    rintro v s2 ⟨b3, rfl, hRs2, h⟩
    show zt l g (d + 1) M_X7_out 72 [.ref 64, zJ, .int x2, .ref x3, .int x4, .int x5, zJ] [.int (zb b3)] s2 _
    refine z_istore dX7_out_72 (by decide) (zokd rfl) rfl ?_
    show zt l g (d + 1) M_X7_out 74 [.ref 64, zJ, .int x2, .ref x3, .int x4, .int x5, .int (zb b3)] [] s2 _
    refine z_iload dX7_out_74 rfl rfl ?_
    refine z_if_eq (pt := 87) dX7_out_76 (by decide) rfl (fun c => ?_) (fun c => ?_)
    · have h := zit h c
      refine z_iload dX7_out_87 rfl rfl ?_
      refine z_istore dX7_out_89 (by decide) (zokd rfl) rfl ?_
      show zt l g (d + 1) M_X7_out 91 [.ref 64, zJ, .int x2, .ref x3, .int (zb b3), .int x5, .int (zb b3)] [] s2 _
      refine z_iinc (v := x5 + (1 : Int32)) dX7_out_91 rfl rfl (by decide) (zokd rfl) rfl ?_
      show zt l g (d + 1) M_X7_out 94 [.ref 64, zJ, .int x2, .ref x3, .int (zb b3), .int (x5 + (1 : Int32)), .int (zb b3)] [] s2 _
      refine z_goto (pn := 47) dX7_out_94 (by decide) ?_
      refine z_wk (ls' := [.ref 64, zJ, .int x2, .ref x3, .int (zb b3), .int (x5 + (1 : Int32)), zJ]) ⟨Or.inr rfl, Or.inr rfl, Or.inr rfl, Or.inr rfl, Or.inr rfl, Or.inr rfl, Or.inl rfl, trivial⟩ ?_
      exact h
    · have h := zif h c
      refine z_iload dX7_out_79 rfl rfl ?_
      refine z_ifb_ne (pt := 87) dX7_out_81 (by decide) rfl (fun c => ?_) (fun c => ?_)
      · have h := zit h c
        refine z_iload dX7_out_87 rfl rfl ?_
        refine z_istore dX7_out_89 (by decide) (zokd rfl) rfl ?_
        show zt l g (d + 1) M_X7_out 91 [.ref 64, zJ, .int x2, .ref x3, .int (zb b3), .int x5, .int (zb b3)] [] s2 _
        refine z_iinc (v := x5 + (1 : Int32)) dX7_out_91 rfl rfl (by decide) (zokd rfl) rfl ?_
        show zt l g (d + 1) M_X7_out 94 [.ref 64, zJ, .int x2, .ref x3, .int (zb b3), .int (x5 + (1 : Int32)), .int (zb b3)] [] s2 _
        refine z_goto (pn := 47) dX7_out_94 (by decide) ?_
        refine z_wk (ls' := [.ref 64, zJ, .int x2, .ref x3, .int (zb b3), .int (x5 + (1 : Int32)), zJ]) ⟨Or.inr rfl, Or.inr rfl, Or.inr rfl, Or.inr rfl, Or.inr rfl, Or.inr rfl, Or.inl rfl, trivial⟩ ?_
        exact h
      · have h := zif h (by rw [c]; exact Bool.false_ne_true)
        refine z_iload dX7_out_84 rfl rfl ?_
        exact z_ret (some (.int x5)) (Or.inr (Or.inl ⟨_, _, rfl, rfl, rfl, dX7_out_86⟩)) zN200 ⟨_, rfl, h⟩
theorem dX7_outs_0 : decode cX7_outs 0 = .ok (.aload_n 0, 1) := by decide +kernel
theorem dX7_outs_1 : decode cX7_outs 1 = .ok (.iload_n 1, 1) := by decide +kernel
theorem dX7_outs_2 : decode cX7_outs 2 = .ok (.invokevirtual 181, 3) := by decide +kernel
theorem dX7_outs_5 : decode cX7_outs 5 = .ok (.ifCond .eq 25, 3) := by decide +kernel
theorem dX7_outs_8 : decode cX7_outs 8 = .ok (.iload_n 2, 1) := by decide +kernel
theorem dX7_outs_9 : decode cX7_outs 9 = .ok (.invokestatic 123, 3) := by decide +kernel
theorem dX7_outs_12 : decode cX7_outs 12 = .ok (.ifCond .eq 18, 3) := by decide +kernel
theorem dX7_outs_15 : decode cX7_outs 15 = .ok (.iload_n 3, 1) := by decide +kernel
theorem dX7_outs_16 : decode cX7_outs 16 = .ok (.invokestatic 126, 3) := by decide +kernel
theorem dX7_outs_19 : decode cX7_outs 19 = .ok (.ifCond .eq 11, 3) := by decide +kernel
theorem dX7_outs_22 : decode cX7_outs 22 = .ok (.iload 4, 2) := by decide +kernel
theorem dX7_outs_24 : decode cX7_outs 24 = .ok (.invokestatic 141, 3) := by decide +kernel
theorem dX7_outs_27 : decode cX7_outs 27 = .ok (.ifCond .ne 5, 3) := by decide +kernel
theorem dX7_outs_30 : decode cX7_outs 30 = .ok (.iconst (-1), 1) := by decide +kernel
theorem dX7_outs_31 : decode cX7_outs 31 = .ok (.ireturn, 1) := by decide +kernel
theorem dX7_outs_32 : decode cX7_outs 32 = .ok (.iload_n 2, 1) := by decide +kernel
theorem dX7_outs_33 : decode cX7_outs 33 = .ok (.sipush 1000, 3) := by decide +kernel
theorem dX7_outs_36 : decode cX7_outs 36 = .ok (.irem, 1) := by decide +kernel
theorem dX7_outs_37 : decode cX7_outs 37 = .ok (.iload_n 2, 1) := by decide +kernel
theorem dX7_outs_38 : decode cX7_outs 38 = .ok (.sipush 1000, 3) := by decide +kernel
theorem dX7_outs_41 : decode cX7_outs 41 = .ok (.idiv, 1) := by decide +kernel
theorem dX7_outs_42 : decode cX7_outs 42 = .ok (.isub, 1) := by decide +kernel
theorem dX7_outs_43 : decode cX7_outs 43 = .ok (.istore 5, 2) := by decide +kernel
theorem dX7_outs_45 : decode cX7_outs 45 = .ok (.iload 5, 2) := by decide +kernel
theorem dX7_outs_47 : decode cX7_outs 47 = .ok (.iconst 1, 1) := by decide +kernel
theorem dX7_outs_48 : decode cX7_outs 48 = .ok (.if_icmp .lt 10, 3) := by decide +kernel
theorem dX7_outs_51 : decode cX7_outs 51 = .ok (.iload 5, 2) := by decide +kernel
theorem dX7_outs_53 : decode cX7_outs 53 = .ok (.bipush 20, 2) := by decide +kernel
theorem dX7_outs_55 : decode cX7_outs 55 = .ok (.if_icmp .le 5, 3) := by decide +kernel
theorem dX7_outs_58 : decode cX7_outs 58 = .ok (.iconst (-1), 1) := by decide +kernel
theorem dX7_outs_59 : decode cX7_outs 59 = .ok (.ireturn, 1) := by decide +kernel
theorem dX7_outs_60 : decode cX7_outs 60 = .ok (.iload_n 3, 1) := by decide +kernel
theorem dX7_outs_61 : decode cX7_outs 61 = .ok (.iload 4, 2) := by decide +kernel
theorem dX7_outs_63 : decode cX7_outs 63 = .ok (.iload 5, 2) := by decide +kernel
theorem dX7_outs_65 : decode cX7_outs 65 = .ok (.imul, 1) := by decide +kernel
theorem dX7_outs_66 : decode cX7_outs 66 = .ok (.isub, 1) := by decide +kernel
theorem dX7_outs_67 : decode cX7_outs 67 = .ok (.istore 6, 2) := by decide +kernel
theorem dX7_outs_69 : decode cX7_outs 69 = .ok (.iload 6, 2) := by decide +kernel
theorem dX7_outs_71 : decode cX7_outs 71 = .ok (.iload 4, 2) := by decide +kernel
theorem dX7_outs_73 : decode cX7_outs 73 = .ok (.iadd, 1) := by decide +kernel
theorem dX7_outs_74 : decode cX7_outs 74 = .ok (.istore 7, 2) := by decide +kernel
theorem dX7_outs_76 : decode cX7_outs 76 = .ok (.iconst 0, 1) := by decide +kernel
theorem dX7_outs_77 : decode cX7_outs 77 = .ok (.istore 8, 2) := by decide +kernel
theorem dX7_outs_79 : decode cX7_outs 79 = .ok (.iconst 0, 1) := by decide +kernel
theorem dX7_outs_80 : decode cX7_outs 80 = .ok (.istore 9, 2) := by decide +kernel
theorem dX7_outs_82 : decode cX7_outs 82 = .ok (.iload 9, 2) := by decide +kernel
theorem dX7_outs_84 : decode cX7_outs 84 = .ok (.sipush 4096, 3) := by decide +kernel
theorem dX7_outs_87 : decode cX7_outs 87 = .ok (.if_icmp .ge 40, 3) := by decide +kernel
theorem dX7_outs_90 : decode cX7_outs 90 = .ok (.aload_n 0, 1) := by decide +kernel
theorem dX7_outs_91 : decode cX7_outs 91 = .ok (.aload_n 0, 1) := by decide +kernel
theorem dX7_outs_92 : decode cX7_outs 92 = .ok (.getfield 25, 3) := by decide +kernel
theorem dX7_outs_95 : decode cX7_outs 95 = .ok (.iload_n 1, 1) := by decide +kernel
theorem dX7_outs_96 : decode cX7_outs 96 = .ok (.iaload, 1) := by decide +kernel
theorem dX7_outs_97 : decode cX7_outs 97 = .ok (.iload 9, 2) := by decide +kernel
theorem dX7_outs_99 : decode cX7_outs 99 = .ok (.invokevirtual 278, 3) := by decide +kernel
theorem dX7_outs_102 : decode cX7_outs 102 = .ok (.istore 10, 2) := by decide +kernel
theorem dX7_outs_104 : decode cX7_outs 104 = .ok (.iload 7, 2) := by decide +kernel
theorem dX7_outs_106 : decode cX7_outs 106 = .ok (.iload 10, 2) := by decide +kernel
theorem dX7_outs_108 : decode cX7_outs 108 = .ok (.if_icmp .lt 13, 3) := by decide +kernel
theorem dX7_outs_111 : decode cX7_outs 111 = .ok (.iload 6, 2) := by decide +kernel
theorem dX7_outs_113 : decode cX7_outs 113 = .ok (.iload 10, 2) := by decide +kernel
theorem dX7_outs_115 : decode cX7_outs 115 = .ok (.if_icmp .ge 6, 3) := by decide +kernel
theorem dX7_outs_118 : decode cX7_outs 118 = .ok (.iinc 8 1, 3) := by decide +kernel
theorem dX7_outs_121 : decode cX7_outs 121 = .ok (.iinc 9 1, 3) := by decide +kernel
theorem dX7_outs_124 : decode cX7_outs 124 = .ok (.goto (-42), 3) := by decide +kernel
theorem dX7_outs_127 : decode cX7_outs 127 = .ok (.iload 8, 2) := by decide +kernel
theorem dX7_outs_129 : decode cX7_outs 129 = .ok (.ireturn, 1) := by decide +kernel
set_option maxHeartbeats 4000000 in
set_option maxRecDepth 100000 in
theorem t_X7_outs {l : Launch} {g : zG} {d : Nat} {s : zS} (hR : zRok s) {p0 : Int32} {p1 : Int32} {p2 : Int32} {p3 : Int32} {K : Int32 → zS → Prop} (h : (zc l g d M_X7_isSeer [.ref 64, .int p0] s (zKz (fun b2 s1 => s1.2.2.1 = s.2.2.1 ∧ (if b2 = true then (zc l g d M_X7_isSpan [.int p1] s1 (zKz (fun b4 s3 => s3.2.2.1 = s1.2.2.1 ∧ (if b4 = true then (zc l g d M_X7_isHeight [.int p2] s3 (zKz (fun b6 s5 => s5.2.2.1 = s3.2.2.1 ∧ (if b6 = true then (zc l g d M_X7_isFall [.int p3] s5 (zKz (fun b8 s7 => s7.2.2.1 = s5.2.2.1 ∧ (if b8 = true then (∀ v9 : Int32, v9 = (p1 % (1000 : Int32)) - (p1 / (1000 : Int32)) → (if v9 < (1 : Int32) then K (-1 : Int32) s7 else (if v9 ≤ (20 : Int32) then zt l g (d + 1) M_X7_outs 82 [.ref 64, .int p0, zJ, zJ, zJ, zJ, .int (p2 - (p3 * v9)), .int ((p2 - (p3 * v9)) + p3), .int (0 : Int32), .int (0 : Int32), zJ] [] s7 (zKi K) else K (-1 : Int32) s7))) else K (-1 : Int32) s7)))) else K (-1 : Int32) s5)))) else K (-1 : Int32) s3)))) else K (-1 : Int32) s1))))) : zc l g (d + 1) M_X7_outs [.ref 64, .int p0, .int p1, .int p2, .int p3] s (zKi K) := by
  refine zCall_of k_X7_outs (Nat.le_of_ble_eq_true rfl) (Nat.le_refl _) (fun _ => ?_)
  show zt l g (d + 1) M_X7_outs 0 [.ref 64, .int p0, .int p1, .int p2, .int p3, zJ, zJ, zJ, zJ, zJ, zJ] [] s (zKi K)
  refine z_aload_n (i := 0) dX7_outs_0 rfl rfl rfl ?_
  refine z_iload_n (i := 1) dX7_outs_1 rfl rfl rfl ?_
  refine z_callV k_X7_isSeer m_X7_181 (zRec_of i_64) rfl h rfl (Nat.le_of_ble_eq_true rfl) dX7_outs_2 zy200 rfl ?_
  rintro v s1 ⟨b2, rfl, hRs1, h⟩
  show zt l g (d + 1) M_X7_outs 5 [.ref 64, .int p0, .int p1, .int p2, .int p3, zJ, zJ, zJ, zJ, zJ, zJ] [.int (zb b2)] s1 _
  refine z_ifb_eq (pt := 30) dX7_outs_5 (by decide) rfl (fun c => ?_) (fun c => ?_)
  · have h := zif h (by rw [c]; exact Bool.false_ne_true)
    refine z_iconst (v := (-1 : Int32)) dX7_outs_30 (by decide) rfl ?_
    exact z_ret (some (.int (-1 : Int32))) (Or.inr (Or.inl ⟨_, _, rfl, rfl, rfl, dX7_outs_31⟩)) zN200 ⟨_, rfl, h⟩
  · have h := zit h c
    refine z_iload_n (i := 2) dX7_outs_8 rfl rfl rfl ?_
    refine z_callS (as := [.int p1]) k_X7_isSpan m_X7_123 rfl h rfl (Nat.le_of_ble_eq_true rfl) dX7_outs_9 zy200 rfl ?_
    rintro v s3 ⟨b4, rfl, hRs3, h⟩
    show zt l g (d + 1) M_X7_outs 12 [.ref 64, .int p0, .int p1, .int p2, .int p3, zJ, zJ, zJ, zJ, zJ, zJ] [.int (zb b4)] s3 _
    refine z_ifb_eq (pt := 30) dX7_outs_12 (by decide) rfl (fun c => ?_) (fun c => ?_)
    · have h := zif h (by rw [c]; exact Bool.false_ne_true)
      refine z_iconst (v := (-1 : Int32)) dX7_outs_30 (by decide) rfl ?_
      exact z_ret (some (.int (-1 : Int32))) (Or.inr (Or.inl ⟨_, _, rfl, rfl, rfl, dX7_outs_31⟩)) zN200 ⟨_, rfl, h⟩
    · have h := zit h c
      refine z_iload_n (i := 3) dX7_outs_15 rfl rfl rfl ?_
      refine z_callS (as := [.int p2]) k_X7_isHeight m_X7_126 rfl h rfl (Nat.le_of_ble_eq_true rfl) dX7_outs_16 zy200 rfl ?_
      rintro v s5 ⟨b6, rfl, hRs5, h⟩
      show zt l g (d + 1) M_X7_outs 19 [.ref 64, .int p0, .int p1, .int p2, .int p3, zJ, zJ, zJ, zJ, zJ, zJ] [.int (zb b6)] s5 _
      refine z_ifb_eq (pt := 30) dX7_outs_19 (by decide) rfl (fun c => ?_) (fun c => ?_)
      · have h := zif h (by rw [c]; exact Bool.false_ne_true)
        refine z_iconst (v := (-1 : Int32)) dX7_outs_30 (by decide) rfl ?_
        exact z_ret (some (.int (-1 : Int32))) (Or.inr (Or.inl ⟨_, _, rfl, rfl, rfl, dX7_outs_31⟩)) zN200 ⟨_, rfl, h⟩
      · have h := zit h c
        refine z_iload dX7_outs_22 rfl rfl ?_
        refine z_callS (as := [.int p3]) k_X7_isFall m_X7_141 rfl h rfl (Nat.le_of_ble_eq_true rfl) dX7_outs_24 zy200 rfl ?_
        rintro v s7 ⟨b8, rfl, hRs7, h⟩
        show zt l g (d + 1) M_X7_outs 27 [.ref 64, .int p0, .int p1, .int p2, .int p3, zJ, zJ, zJ, zJ, zJ, zJ] [.int (zb b8)] s7 _
        refine z_ifb_ne (pt := 32) dX7_outs_27 (by decide) rfl (fun c => ?_) (fun c => ?_)
        · have h := zit h c
          refine z_iload_n (i := 2) dX7_outs_32 rfl rfl rfl ?_
          refine z_sipush (v := (1000 : Int32)) dX7_outs_33 (by decide) rfl ?_
          refine z_irem dX7_outs_36 (by decide) rfl ?_
          refine z_iload_n (i := 2) dX7_outs_37 rfl rfl rfl ?_
          refine z_sipush (v := (1000 : Int32)) dX7_outs_38 (by decide) rfl ?_
          refine z_idiv dX7_outs_41 (by decide) rfl ?_
          refine z_isub dX7_outs_42 rfl ?_
          refine z_istore dX7_outs_43 (by decide) (zokd rfl) rfl ?_
          obtain ⟨v9, ev9⟩ : ∃ x : Int32, x = (p1 % (1000 : Int32)) - (p1 / (1000 : Int32)) := ⟨_, rfl⟩
          rw [← ev9]
          have h := h v9 ev9
          show zt l g (d + 1) M_X7_outs 45 [.ref 64, .int p0, .int p1, .int p2, .int p3, .int v9, zJ, zJ, zJ, zJ, zJ] [] s7 _
          refine z_iload dX7_outs_45 rfl rfl ?_
          refine z_iconst (v := (1 : Int32)) dX7_outs_47 (by decide) rfl ?_
          refine z_icmp_lt (pt := 58) dX7_outs_48 (by decide) rfl (fun c => ?_) (fun c => ?_)
          · have h := zit h c
            refine z_iconst (v := (-1 : Int32)) dX7_outs_58 (by decide) rfl ?_
            exact z_ret (some (.int (-1 : Int32))) (Or.inr (Or.inl ⟨_, _, rfl, rfl, rfl, dX7_outs_59⟩)) zN200 ⟨_, rfl, h⟩
          · have h := zif h c
            refine z_iload dX7_outs_51 rfl rfl ?_
            refine z_bipush (v := (20 : Int32)) dX7_outs_53 (by decide) rfl ?_
            refine z_icmp_le (pt := 60) dX7_outs_55 (by decide) rfl (fun c => ?_) (fun c => ?_)
            · have h := zit h c
              refine z_iload_n (i := 3) dX7_outs_60 rfl rfl rfl ?_
              refine z_iload dX7_outs_61 rfl rfl ?_
              refine z_iload dX7_outs_63 rfl rfl ?_
              refine z_imul dX7_outs_65 rfl ?_
              refine z_isub dX7_outs_66 rfl ?_
              refine z_istore dX7_outs_67 (by decide) (zokd rfl) rfl ?_
              show zt l g (d + 1) M_X7_outs 69 [.ref 64, .int p0, .int p1, .int p2, .int p3, .int v9, .int (p2 - (p3 * v9)), zJ, zJ, zJ, zJ] [] s7 _
              refine z_iload dX7_outs_69 rfl rfl ?_
              refine z_iload dX7_outs_71 rfl rfl ?_
              refine z_iadd dX7_outs_73 rfl ?_
              refine z_istore dX7_outs_74 (by decide) (zokd rfl) rfl ?_
              show zt l g (d + 1) M_X7_outs 76 [.ref 64, .int p0, .int p1, .int p2, .int p3, .int v9, .int (p2 - (p3 * v9)), .int ((p2 - (p3 * v9)) + p3), zJ, zJ, zJ] [] s7 _
              refine z_iconst (v := (0 : Int32)) dX7_outs_76 (by decide) rfl ?_
              refine z_istore dX7_outs_77 (by decide) (zokd rfl) rfl ?_
              show zt l g (d + 1) M_X7_outs 79 [.ref 64, .int p0, .int p1, .int p2, .int p3, .int v9, .int (p2 - (p3 * v9)), .int ((p2 - (p3 * v9)) + p3), .int (0 : Int32), zJ, zJ] [] s7 _
              refine z_iconst (v := (0 : Int32)) dX7_outs_79 (by decide) rfl ?_
              refine z_istore dX7_outs_80 (by decide) (zokd rfl) rfl ?_
              show zt l g (d + 1) M_X7_outs 82 [.ref 64, .int p0, .int p1, .int p2, .int p3, .int v9, .int (p2 - (p3 * v9)), .int ((p2 - (p3 * v9)) + p3), .int (0 : Int32), .int (0 : Int32), zJ] [] s7 _
              refine z_wk (ls' := [.ref 64, .int p0, zJ, zJ, zJ, zJ, .int (p2 - (p3 * v9)), .int ((p2 - (p3 * v9)) + p3), .int (0 : Int32), .int (0 : Int32), zJ]) ⟨Or.inr rfl, Or.inr rfl, Or.inl rfl, Or.inl rfl, Or.inl rfl, Or.inl rfl, Or.inr rfl, Or.inr rfl, Or.inr rfl, Or.inr rfl, Or.inr rfl, trivial⟩ ?_
              exact h
            · have h := zif h c
              refine z_iconst (v := (-1 : Int32)) dX7_outs_58 (by decide) rfl ?_
              exact z_ret (some (.int (-1 : Int32))) (Or.inr (Or.inl ⟨_, _, rfl, rfl, rfl, dX7_outs_59⟩)) zN200 ⟨_, rfl, h⟩
        · have h := zif h (by rw [c]; exact Bool.false_ne_true)
          refine z_iconst (v := (-1 : Int32)) dX7_outs_30 (by decide) rfl ?_
          exact z_ret (some (.int (-1 : Int32))) (Or.inr (Or.inl ⟨_, _, rfl, rfl, rfl, dX7_outs_31⟩)) zN200 ⟨_, rfl, h⟩
set_option maxHeartbeats 4000000 in
set_option maxRecDepth 100000 in
theorem t_X7_outs_82 {l : Launch} {g : zG} {d : Nat} {s : zS} (hR : zRok s) {x1 : Int32} {x6 : Int32} {x7 : Int32} {x8 : Int32} {x9 : Int32} {K : Int32 → zS → Prop} (h : (if (4096 : Int32) ≤ x9 then K x8 s else (vp_in x1 20 ∧ (zc l g d M_X7_leastShown [.ref 64, .int (s.1 69 x1.toNatClampNeg), .int x9] s (zKi (fun r3 s2 => s2.2.2.1 = s.2.2.1 ∧ (if x7 < r3 then zt l g (d + 1) M_X7_outs 82 [.ref 64, .int x1, zJ, zJ, zJ, zJ, .int x6, .int x7, .int x8, .int (x9 + (1 : Int32)), zJ] [] s2 (zKi K) else (if r3 ≤ x6 then zt l g (d + 1) M_X7_outs 82 [.ref 64, .int x1, zJ, zJ, zJ, zJ, .int x6, .int x7, .int x8, .int (x9 + (1 : Int32)), zJ] [] s2 (zKi K) else zt l g (d + 1) M_X7_outs 82 [.ref 64, .int x1, zJ, zJ, zJ, zJ, .int x6, .int x7, .int (x8 + (1 : Int32)), .int (x9 + (1 : Int32)), zJ] [] s2 (zKi K))))))))) : zt l g (d + 1) M_X7_outs 82 [.ref 64, .int x1, zJ, zJ, zJ, zJ, .int x6, .int x7, .int x8, .int x9, zJ] [] s (zKi K) := by
  refine z_iload dX7_outs_82 rfl rfl ?_
  refine z_sipush (v := (4096 : Int32)) dX7_outs_84 (by decide) rfl ?_
  refine z_icmp_ge (pt := 127) dX7_outs_87 (by decide) rfl (fun c => ?_) (fun c => ?_)
  · have h := zit h c
    refine z_iload dX7_outs_127 rfl rfl ?_
    exact z_ret (some (.int x8)) (Or.inr (Or.inl ⟨_, _, rfl, rfl, rfl, dX7_outs_129⟩)) zN200 ⟨_, rfl, h⟩
  · have h := zif h c
    refine z_aload_n (i := 0) dX7_outs_90 rfl rfl rfl ?_
    refine z_aload_n (i := 0) dX7_outs_91 rfl rfl rfl ?_
    refine z_getR (q := 69) f_X7_25 i_64 rfl (r_64_2 hR) (by decide) dX7_outs_92 rfl ?_
    refine z_iload_n (i := 1) dX7_outs_95 rfl rfl rfl ?_
    obtain ⟨a1, h⟩ := h
    have wa1 := vin a1
    refine z_iald (x := s.1 69 x1.toNatClampNeg) rfl a_69 a1 dX7_outs_96 rfl ?_
    refine z_iload dX7_outs_97 rfl rfl ?_
    refine z_callV k_X7_leastShown m_X7_278 (zRec_of i_64) rfl h rfl (Nat.le_of_ble_eq_true rfl) dX7_outs_99 zy200 rfl ?_
    rintro v s2 ⟨r3, rfl, hRs2, h⟩
    show zt l g (d + 1) M_X7_outs 102 [.ref 64, .int x1, zJ, zJ, zJ, zJ, .int x6, .int x7, .int x8, .int x9, zJ] [.int r3] s2 _
    refine z_istore dX7_outs_102 (by decide) (zokd rfl) rfl ?_
    show zt l g (d + 1) M_X7_outs 104 [.ref 64, .int x1, zJ, zJ, zJ, zJ, .int x6, .int x7, .int x8, .int x9, .int r3] [] s2 _
    refine z_iload dX7_outs_104 rfl rfl ?_
    refine z_iload dX7_outs_106 rfl rfl ?_
    refine z_icmp_lt (pt := 121) dX7_outs_108 (by decide) rfl (fun c => ?_) (fun c => ?_)
    · have h := zit h c
      refine z_iinc (v := x9 + (1 : Int32)) dX7_outs_121 rfl rfl (by decide) (zokd rfl) rfl ?_
      show zt l g (d + 1) M_X7_outs 124 [.ref 64, .int x1, zJ, zJ, zJ, zJ, .int x6, .int x7, .int x8, .int (x9 + (1 : Int32)), .int r3] [] s2 _
      refine z_goto (pn := 82) dX7_outs_124 (by decide) ?_
      refine z_wk (ls' := [.ref 64, .int x1, zJ, zJ, zJ, zJ, .int x6, .int x7, .int x8, .int (x9 + (1 : Int32)), zJ]) ⟨Or.inr rfl, Or.inr rfl, Or.inr rfl, Or.inr rfl, Or.inr rfl, Or.inr rfl, Or.inr rfl, Or.inr rfl, Or.inr rfl, Or.inr rfl, Or.inl rfl, trivial⟩ ?_
      exact h
    · have h := zif h c
      refine z_iload dX7_outs_111 rfl rfl ?_
      refine z_iload dX7_outs_113 rfl rfl ?_
      refine z_icmp_ge (pt := 121) dX7_outs_115 (by decide) rfl (fun c => ?_) (fun c => ?_)
      · have h := zit h c
        refine z_iinc (v := x9 + (1 : Int32)) dX7_outs_121 rfl rfl (by decide) (zokd rfl) rfl ?_
        show zt l g (d + 1) M_X7_outs 124 [.ref 64, .int x1, zJ, zJ, zJ, zJ, .int x6, .int x7, .int x8, .int (x9 + (1 : Int32)), .int r3] [] s2 _
        refine z_goto (pn := 82) dX7_outs_124 (by decide) ?_
        refine z_wk (ls' := [.ref 64, .int x1, zJ, zJ, zJ, zJ, .int x6, .int x7, .int x8, .int (x9 + (1 : Int32)), zJ]) ⟨Or.inr rfl, Or.inr rfl, Or.inr rfl, Or.inr rfl, Or.inr rfl, Or.inr rfl, Or.inr rfl, Or.inr rfl, Or.inr rfl, Or.inr rfl, Or.inl rfl, trivial⟩ ?_
        exact h
      · have h := zif h c
        refine z_iinc (v := x8 + (1 : Int32)) dX7_outs_118 rfl rfl (by decide) (zokd rfl) rfl ?_
        show zt l g (d + 1) M_X7_outs 121 [.ref 64, .int x1, zJ, zJ, zJ, zJ, .int x6, .int x7, .int (x8 + (1 : Int32)), .int x9, .int r3] [] s2 _
        refine z_iinc (v := x9 + (1 : Int32)) dX7_outs_121 rfl rfl (by decide) (zokd rfl) rfl ?_
        show zt l g (d + 1) M_X7_outs 124 [.ref 64, .int x1, zJ, zJ, zJ, zJ, .int x6, .int x7, .int (x8 + (1 : Int32)), .int (x9 + (1 : Int32)), .int r3] [] s2 _
        refine z_goto (pn := 82) dX7_outs_124 (by decide) ?_
        refine z_wk (ls' := [.ref 64, .int x1, zJ, zJ, zJ, zJ, .int x6, .int x7, .int (x8 + (1 : Int32)), .int (x9 + (1 : Int32)), zJ]) ⟨Or.inr rfl, Or.inr rfl, Or.inr rfl, Or.inr rfl, Or.inr rfl, Or.inr rfl, Or.inr rfl, Or.inr rfl, Or.inr rfl, Or.inr rfl, Or.inl rfl, trivial⟩ ?_
        exact h
theorem dX7_size_0 : decode cX7_size 0 = .ok (.aload_n 0, 1) := by decide +kernel
theorem dX7_size_1 : decode cX7_size 1 = .ok (.iload_n 1, 1) := by decide +kernel
theorem dX7_size_2 : decode cX7_size 2 = .ok (.invokevirtual 236, 3) := by decide +kernel
theorem dX7_size_5 : decode cX7_size 5 = .ok (.ifCond .eq 37, 3) := by decide +kernel
theorem dX7_size_8 : decode cX7_size 8 = .ok (.aload_n 0, 1) := by decide +kernel
theorem dX7_size_9 : decode cX7_size 9 = .ok (.iload_n 2, 1) := by decide +kernel
theorem dX7_size_10 : decode cX7_size 10 = .ok (.invokevirtual 157, 3) := by decide +kernel
theorem dX7_size_13 : decode cX7_size 13 = .ok (.ifCond .eq 29, 3) := by decide +kernel
theorem dX7_size_16 : decode cX7_size 16 = .ok (.iload_n 3, 1) := by decide +kernel
theorem dX7_size_17 : decode cX7_size 17 = .ok (.iconst 1, 1) := by decide +kernel
theorem dX7_size_18 : decode cX7_size 18 = .ok (.if_icmp .lt 24, 3) := by decide +kernel
theorem dX7_size_21 : decode cX7_size 21 = .ok (.iload_n 3, 1) := by decide +kernel
theorem dX7_size_22 : decode cX7_size 22 = .ok (.sipush 10000, 3) := by decide +kernel
theorem dX7_size_25 : decode cX7_size 25 = .ok (.if_icmp .gt 17, 3) := by decide +kernel
theorem dX7_size_28 : decode cX7_size 28 = .ok (.iload 4, 2) := by decide +kernel
theorem dX7_size_30 : decode cX7_size 30 = .ok (.iconst 1, 1) := by decide +kernel
theorem dX7_size_31 : decode cX7_size 31 = .ok (.if_icmp .lt 11, 3) := by decide +kernel
theorem dX7_size_34 : decode cX7_size 34 = .ok (.iload 4, 2) := by decide +kernel
theorem dX7_size_36 : decode cX7_size 36 = .ok (.sipush 10000, 3) := by decide +kernel
theorem dX7_size_39 : decode cX7_size 39 = .ok (.if_icmp .le 5, 3) := by decide +kernel
theorem dX7_size_42 : decode cX7_size 42 = .ok (.iconst (-1), 1) := by decide +kernel
theorem dX7_size_43 : decode cX7_size 43 = .ok (.ireturn, 1) := by decide +kernel
theorem dX7_size_44 : decode cX7_size 44 = .ok (.aload_n 0, 1) := by decide +kernel
theorem dX7_size_45 : decode cX7_size 45 = .ok (.getfield 37, 3) := by decide +kernel
theorem dX7_size_48 : decode cX7_size 48 = .ok (.iload_n 1, 1) := by decide +kernel
theorem dX7_size_49 : decode cX7_size 49 = .ok (.aaload, 1) := by decide +kernel
theorem dX7_size_50 : decode cX7_size 50 = .ok (.astore 5, 2) := by decide +kernel
theorem dX7_size_52 : decode cX7_size 52 = .ok (.aload_n 0, 1) := by decide +kernel
theorem dX7_size_53 : decode cX7_size 53 = .ok (.getfield 31, 3) := by decide +kernel
theorem dX7_size_56 : decode cX7_size 56 = .ok (.iload_n 2, 1) := by decide +kernel
theorem dX7_size_57 : decode cX7_size 57 = .ok (.aaload, 1) := by decide +kernel
theorem dX7_size_58 : decode cX7_size 58 = .ok (.astore 6, 2) := by decide +kernel
theorem dX7_size_60 : decode cX7_size 60 = .ok (.aload 6, 2) := by decide +kernel
theorem dX7_size_62 : decode cX7_size 62 = .ok (.aload 5, 2) := by decide +kernel
theorem dX7_size_64 : decode cX7_size 64 = .ok (.getfield 206, 3) := by decide +kernel
theorem dX7_size_67 : decode cX7_size 67 = .ok (.aload_n 0, 1) := by decide +kernel
theorem dX7_size_68 : decode cX7_size 68 = .ok (.getfield 12, 3) := by decide +kernel
theorem dX7_size_71 : decode cX7_size 71 = .ok (.invokevirtual 167, 3) := by decide +kernel
theorem dX7_size_74 : decode cX7_size 74 = .ok (.ifCond .ne 5, 3) := by decide +kernel
theorem dX7_size_77 : decode cX7_size 77 = .ok (.iconst (-1), 1) := by decide +kernel
theorem dX7_size_78 : decode cX7_size 78 = .ok (.ireturn, 1) := by decide +kernel
theorem dX7_size_79 : decode cX7_size 79 = .ok (.aload_n 0, 1) := by decide +kernel
theorem dX7_size_80 : decode cX7_size 80 = .ok (.getfield 25, 3) := by decide +kernel
theorem dX7_size_83 : decode cX7_size 83 = .ok (.aload 5, 2) := by decide +kernel
theorem dX7_size_85 : decode cX7_size 85 = .ok (.getfield 203, 3) := by decide +kernel
theorem dX7_size_88 : decode cX7_size 88 = .ok (.iaload, 1) := by decide +kernel
theorem dX7_size_89 : decode cX7_size 89 = .ok (.istore 7, 2) := by decide +kernel
theorem dX7_size_91 : decode cX7_size 91 = .ok (.aload 6, 2) := by decide +kernel
theorem dX7_size_93 : decode cX7_size 93 = .ok (.aload 5, 2) := by decide +kernel
theorem dX7_size_95 : decode cX7_size 95 = .ok (.getfield 206, 3) := by decide +kernel
theorem dX7_size_98 : decode cX7_size 98 = .ok (.invokevirtual 171, 3) := by decide +kernel
theorem dX7_size_101 : decode cX7_size 101 = .ok (.iload 7, 2) := by decide +kernel
theorem dX7_size_103 : decode cX7_size 103 = .ok (.bipush 64, 2) := by decide +kernel
theorem dX7_size_105 : decode cX7_size 105 = .ok (.idiv, 1) := by decide +kernel
theorem dX7_size_106 : decode cX7_size 106 = .ok (.isub, 1) := by decide +kernel
theorem dX7_size_107 : decode cX7_size 107 = .ok (.invokestatic 281, 3) := by decide +kernel
theorem dX7_size_110 : decode cX7_size 110 = .ok (.aload 6, 2) := by decide +kernel
theorem dX7_size_112 : decode cX7_size 112 = .ok (.aload 5, 2) := by decide +kernel
theorem dX7_size_114 : decode cX7_size 114 = .ok (.getfield 206, 3) := by decide +kernel
theorem dX7_size_117 : decode cX7_size 117 = .ok (.invokevirtual 174, 3) := by decide +kernel
theorem dX7_size_120 : decode cX7_size 120 = .ok (.iload 7, 2) := by decide +kernel
theorem dX7_size_122 : decode cX7_size 122 = .ok (.bipush 64, 2) := by decide +kernel
theorem dX7_size_124 : decode cX7_size 124 = .ok (.irem, 1) := by decide +kernel
theorem dX7_size_125 : decode cX7_size 125 = .ok (.isub, 1) := by decide +kernel
theorem dX7_size_126 : decode cX7_size 126 = .ok (.invokestatic 281, 3) := by decide +kernel
theorem dX7_size_129 : decode cX7_size 129 = .ok (.iadd, 1) := by decide +kernel
theorem dX7_size_130 : decode cX7_size 130 = .ok (.istore 8, 2) := by decide +kernel
theorem dX7_size_132 : decode cX7_size 132 = .ok (.iload_n 3, 1) := by decide +kernel
theorem dX7_size_133 : decode cX7_size 133 = .ok (.iload 8, 2) := by decide +kernel
theorem dX7_size_135 : decode cX7_size 135 = .ok (.imul, 1) := by decide +kernel
theorem dX7_size_136 : decode cX7_size 136 = .ok (.iload 4, 2) := by decide +kernel
theorem dX7_size_138 : decode cX7_size 138 = .ok (.idiv, 1) := by decide +kernel
theorem dX7_size_139 : decode cX7_size 139 = .ok (.ireturn, 1) := by decide +kernel
set_option maxHeartbeats 4000000 in
set_option maxRecDepth 100000 in
theorem t_X7_size {l : Launch} {g : zG} {d : Nat} {s : zS} (hR : zRok s) {p0 : Int32} {p1 : Int32} {p2 : Int32} {p3 : Int32} {K : Int32 → zS → Prop} (h : (zc l g d M_X7_isTelling [.ref 64, .int p0] s (zKz (fun b2 s1 => s1.2.2.1 = s.2.2.1 ∧ (if b2 = true then (zc l g d M_X7_isThing [.ref 64, .int p1] s1 (zKz (fun b4 s3 => s3.2.2.1 = s1.2.2.1 ∧ (if b4 = true then (if p2 < (1 : Int32) then K (-1 : Int32) s3 else (if (10000 : Int32) < p2 then K (-1 : Int32) s3 else (if p3 < (1 : Int32) then K (-1 : Int32) s3 else (if p3 ≤ (10000 : Int32) then (vp_in p0 60 ∧ (vp_in p1 12 ∧ (zc l g d M_X6_isThere [.ref (92 + p1.toNatClampNeg), .int (s3.1 (104 + p0.toNatClampNeg) 1), .ref 65] s3 (zKz (fun b8 s7 => s7.2.2.1 = s3.2.2.1 ∧ (if b8 = true then (vp_in (s7.1 (104 + p0.toNatClampNeg) 0) 20 ∧ (∀ v10 : Int32, v10 = s7.1 69 ((s7.1 (104 + p0.toNatClampNeg) 0).toNatClampNeg) → (zc l g d M_X6_xIn [.ref (92 + p1.toNatClampNeg), .int (s7.1 (104 + p0.toNatClampNeg) 1)] s7 (zKi (fun r12 s11 => s11.2.2.1 = s7.2.2.1 ∧ (zc l g d M_X6_yIn [.ref (92 + p1.toNatClampNeg), .int (s11.1 (104 + p0.toNatClampNeg) 1)] s11 (zKi (fun r14 s13 => s13.2.2.1 = s11.2.2.1 ∧ (∀ v15 : Int32, v15 = (zabs (r12 - (v10 / (64 : Int32)))) + (zabs (r14 - (v10 % (64 : Int32)))) → (¬ p3 = 0 ∧ K ((p2 * v15) / p3) s13)))))))))) else K (-1 : Int32) s7)))))) else K (-1 : Int32) s3)))) else K (-1 : Int32) s3)))) else K (-1 : Int32) s1))))) : zc l g (d + 1) M_X7_size [.ref 64, .int p0, .int p1, .int p2, .int p3] s (zKi K) := by
  refine zCall_of k_X7_size (Nat.le_of_ble_eq_true rfl) (Nat.le_refl _) (fun _ => ?_)
  show zt l g (d + 1) M_X7_size 0 [.ref 64, .int p0, .int p1, .int p2, .int p3, zJ, zJ, zJ, zJ] [] s (zKi K)
  refine z_aload_n (i := 0) dX7_size_0 rfl rfl rfl ?_
  refine z_iload_n (i := 1) dX7_size_1 rfl rfl rfl ?_
  refine z_callV k_X7_isTelling m_X7_236 (zRec_of i_64) rfl h rfl (Nat.le_of_ble_eq_true rfl) dX7_size_2 zy200 rfl ?_
  rintro v s1 ⟨b2, rfl, hRs1, h⟩
  show zt l g (d + 1) M_X7_size 5 [.ref 64, .int p0, .int p1, .int p2, .int p3, zJ, zJ, zJ, zJ] [.int (zb b2)] s1 _
  refine z_ifb_eq (pt := 42) dX7_size_5 (by decide) rfl (fun c => ?_) (fun c => ?_)
  · have h := zif h (by rw [c]; exact Bool.false_ne_true)
    refine z_iconst (v := (-1 : Int32)) dX7_size_42 (by decide) rfl ?_
    exact z_ret (some (.int (-1 : Int32))) (Or.inr (Or.inl ⟨_, _, rfl, rfl, rfl, dX7_size_43⟩)) zN200 ⟨_, rfl, h⟩
  · have h := zit h c
    refine z_aload_n (i := 0) dX7_size_8 rfl rfl rfl ?_
    refine z_iload_n (i := 2) dX7_size_9 rfl rfl rfl ?_
    refine z_callV k_X7_isThing m_X7_157 (zRec_of i_64) rfl h rfl (Nat.le_of_ble_eq_true rfl) dX7_size_10 zy200 rfl ?_
    rintro v s3 ⟨b4, rfl, hRs3, h⟩
    show zt l g (d + 1) M_X7_size 13 [.ref 64, .int p0, .int p1, .int p2, .int p3, zJ, zJ, zJ, zJ] [.int (zb b4)] s3 _
    refine z_ifb_eq (pt := 42) dX7_size_13 (by decide) rfl (fun c => ?_) (fun c => ?_)
    · have h := zif h (by rw [c]; exact Bool.false_ne_true)
      refine z_iconst (v := (-1 : Int32)) dX7_size_42 (by decide) rfl ?_
      exact z_ret (some (.int (-1 : Int32))) (Or.inr (Or.inl ⟨_, _, rfl, rfl, rfl, dX7_size_43⟩)) zN200 ⟨_, rfl, h⟩
    · have h := zit h c
      refine z_iload_n (i := 3) dX7_size_16 rfl rfl rfl ?_
      refine z_iconst (v := (1 : Int32)) dX7_size_17 (by decide) rfl ?_
      refine z_icmp_lt (pt := 42) dX7_size_18 (by decide) rfl (fun c => ?_) (fun c => ?_)
      · have h := zit h c
        refine z_iconst (v := (-1 : Int32)) dX7_size_42 (by decide) rfl ?_
        exact z_ret (some (.int (-1 : Int32))) (Or.inr (Or.inl ⟨_, _, rfl, rfl, rfl, dX7_size_43⟩)) zN200 ⟨_, rfl, h⟩
      · have h := zif h c
        refine z_iload_n (i := 3) dX7_size_21 rfl rfl rfl ?_
        refine z_sipush (v := (10000 : Int32)) dX7_size_22 (by decide) rfl ?_
        refine z_icmp_gt (pt := 42) dX7_size_25 (by decide) rfl (fun c => ?_) (fun c => ?_)
        · have h := zit h c
          refine z_iconst (v := (-1 : Int32)) dX7_size_42 (by decide) rfl ?_
          exact z_ret (some (.int (-1 : Int32))) (Or.inr (Or.inl ⟨_, _, rfl, rfl, rfl, dX7_size_43⟩)) zN200 ⟨_, rfl, h⟩
        · have h := zif h c
          refine z_iload dX7_size_28 rfl rfl ?_
          refine z_iconst (v := (1 : Int32)) dX7_size_30 (by decide) rfl ?_
          refine z_icmp_lt (pt := 42) dX7_size_31 (by decide) rfl (fun c => ?_) (fun c => ?_)
          · have h := zit h c
            refine z_iconst (v := (-1 : Int32)) dX7_size_42 (by decide) rfl ?_
            exact z_ret (some (.int (-1 : Int32))) (Or.inr (Or.inl ⟨_, _, rfl, rfl, rfl, dX7_size_43⟩)) zN200 ⟨_, rfl, h⟩
          · have h := zif h c
            refine z_iload dX7_size_34 rfl rfl ?_
            refine z_sipush (v := (10000 : Int32)) dX7_size_36 (by decide) rfl ?_
            refine z_icmp_le (pt := 44) dX7_size_39 (by decide) rfl (fun c => ?_) (fun c => ?_)
            · have h := zit h c
              refine z_aload_n (i := 0) dX7_size_44 rfl rfl rfl ?_
              refine z_getR (q := 71) f_X7_37 i_64 rfl (r_64_6 (zRok_of hRs3 (zRok_of hRs1 hR))) (by decide) dX7_size_45 rfl ?_
              refine z_iload_n (i := 1) dX7_size_48 rfl rfl rfl ?_
              obtain ⟨a5, h⟩ := h
              have wa5 := vin a5
              refine z_aald (q := 104 + p0.toNatClampNeg) (by decide) a_71 a5 (r_71 (zRok_of hRs3 (zRok_of hRs1 hR)) a5) (by omega) dX7_size_49 rfl ?_
              refine z_astore dX7_size_50 (by decide) (zokd rfl) rfl ?_
              show zt l g (d + 1) M_X7_size 52 [.ref 64, .int p0, .int p1, .int p2, .int p3, .ref (104 + p0.toNatClampNeg), zJ, zJ, zJ] [] s3 _
              refine z_aload_n (i := 0) dX7_size_52 rfl rfl rfl ?_
              refine z_getR (q := 70) f_X7_31 i_64 rfl (r_64_4 (zRok_of hRs3 (zRok_of hRs1 hR))) (by decide) dX7_size_53 rfl ?_
              refine z_iload_n (i := 2) dX7_size_56 rfl rfl rfl ?_
              obtain ⟨a6, h⟩ := h
              have wa6 := vin a6
              refine z_aald (q := 92 + p1.toNatClampNeg) (by decide) a_70 a6 (r_70 (zRok_of hRs3 (zRok_of hRs1 hR)) a6) (by omega) dX7_size_57 rfl ?_
              refine z_astore dX7_size_58 (by decide) (zokd rfl) rfl ?_
              show zt l g (d + 1) M_X7_size 60 [.ref 64, .int p0, .int p1, .int p2, .int p3, .ref (104 + p0.toNatClampNeg), .ref (92 + p1.toNatClampNeg), zJ, zJ] [] s3 _
              refine z_aload dX7_size_60 rfl rfl ?_
              refine z_aload dX7_size_62 rfl rfl ?_
              refine z_getI (x := s3.1 (104 + p0.toNatClampNeg) 1) rfl f_X7_206 (i_Te (p_71 a5)) rfl dX7_size_64 rfl ?_
              refine z_aload_n (i := 0) dX7_size_67 rfl rfl rfl ?_
              refine z_getR (q := 65) f_X7_12 i_64 rfl (r_64_0 (zRok_of hRs3 (zRok_of hRs1 hR))) (by decide) dX7_size_68 rfl ?_
              refine z_callV k_X6_isThere m_X7_167 (zRec_of (i_Th (p_70 a6))) rfl h rfl (Nat.le_of_ble_eq_true rfl) dX7_size_71 zy200 rfl ?_
              rintro v s7 ⟨b8, rfl, hRs7, h⟩
              show zt l g (d + 1) M_X7_size 74 [.ref 64, .int p0, .int p1, .int p2, .int p3, .ref (104 + p0.toNatClampNeg), .ref (92 + p1.toNatClampNeg), zJ, zJ] [.int (zb b8)] s7 _
              refine z_ifb_ne (pt := 79) dX7_size_74 (by decide) rfl (fun c => ?_) (fun c => ?_)
              · have h := zit h c
                refine z_aload_n (i := 0) dX7_size_79 rfl rfl rfl ?_
                refine z_getR (q := 69) f_X7_25 i_64 rfl (r_64_2 (zRok_of hRs7 (zRok_of hRs3 (zRok_of hRs1 hR)))) (by decide) dX7_size_80 rfl ?_
                refine z_aload dX7_size_83 rfl rfl ?_
                refine z_getI (x := s7.1 (104 + p0.toNatClampNeg) 0) rfl f_X7_203 (i_Te (p_71 a5)) rfl dX7_size_85 rfl ?_
                obtain ⟨a9, h⟩ := h
                have wa9 := vin a9
                refine z_iald (x := s7.1 69 ((s7.1 (104 + p0.toNatClampNeg) 0).toNatClampNeg)) rfl a_69 a9 dX7_size_88 rfl ?_
                refine z_istore dX7_size_89 (by decide) (zokd rfl) rfl ?_
                obtain ⟨v10, ev10⟩ : ∃ x : Int32, x = s7.1 69 ((s7.1 (104 + p0.toNatClampNeg) 0).toNatClampNeg) := ⟨_, rfl⟩
                rw [← ev10]
                have h := h v10 ev10
                show zt l g (d + 1) M_X7_size 91 [.ref 64, .int p0, .int p1, .int p2, .int p3, .ref (104 + p0.toNatClampNeg), .ref (92 + p1.toNatClampNeg), .int v10, zJ] [] s7 _
                refine z_aload dX7_size_91 rfl rfl ?_
                refine z_aload dX7_size_93 rfl rfl ?_
                refine z_getI (x := s7.1 (104 + p0.toNatClampNeg) 1) rfl f_X7_206 (i_Te (p_71 a5)) rfl dX7_size_95 rfl ?_
                refine z_callV k_X6_xIn m_X7_171 (zRec_of (i_Th (p_70 a6))) rfl h rfl (Nat.le_of_ble_eq_true rfl) dX7_size_98 zy200 rfl ?_
                rintro v s11 ⟨r12, rfl, hRs11, h⟩
                show zt l g (d + 1) M_X7_size 101 [.ref 64, .int p0, .int p1, .int p2, .int p3, .ref (104 + p0.toNatClampNeg), .ref (92 + p1.toNatClampNeg), .int v10, zJ] [.int r12] s11 _
                refine z_iload dX7_size_101 rfl rfl ?_
                refine z_bipush (v := (64 : Int32)) dX7_size_103 (by decide) rfl ?_
                refine z_idiv dX7_size_105 (by decide) rfl ?_
                refine z_isub dX7_size_106 rfl ?_
                refine z_mabs m_X7_281 dX7_size_107 (Nat.le_of_ble_eq_true rfl) rfl ?_
                refine z_aload dX7_size_110 rfl rfl ?_
                refine z_aload dX7_size_112 rfl rfl ?_
                refine z_getI (x := s11.1 (104 + p0.toNatClampNeg) 1) rfl f_X7_206 (i_Te (p_71 a5)) rfl dX7_size_114 rfl ?_
                refine z_callV k_X6_yIn m_X7_174 (zRec_of (i_Th (p_70 a6))) rfl h rfl (Nat.le_of_ble_eq_true rfl) dX7_size_117 zy200 rfl ?_
                rintro v s13 ⟨r14, rfl, hRs13, h⟩
                show zt l g (d + 1) M_X7_size 120 [.ref 64, .int p0, .int p1, .int p2, .int p3, .ref (104 + p0.toNatClampNeg), .ref (92 + p1.toNatClampNeg), .int v10, zJ] [.int r14, .int (zabs (r12 - (v10 / (64 : Int32))))] s13 _
                refine z_iload dX7_size_120 rfl rfl ?_
                refine z_bipush (v := (64 : Int32)) dX7_size_122 (by decide) rfl ?_
                refine z_irem dX7_size_124 (by decide) rfl ?_
                refine z_isub dX7_size_125 rfl ?_
                refine z_mabs m_X7_281 dX7_size_126 (Nat.le_of_ble_eq_true rfl) rfl ?_
                refine z_iadd dX7_size_129 rfl ?_
                refine z_istore dX7_size_130 (by decide) (zokd rfl) rfl ?_
                obtain ⟨v15, ev15⟩ : ∃ x : Int32, x = (zabs (r12 - (v10 / (64 : Int32)))) + (zabs (r14 - (v10 % (64 : Int32)))) := ⟨_, rfl⟩
                rw [← ev15]
                have h := h v15 ev15
                show zt l g (d + 1) M_X7_size 132 [.ref 64, .int p0, .int p1, .int p2, .int p3, .ref (104 + p0.toNatClampNeg), .ref (92 + p1.toNatClampNeg), .int v10, .int v15] [] s13 _
                refine z_iload_n (i := 3) dX7_size_132 rfl rfl rfl ?_
                refine z_iload dX7_size_133 rfl rfl ?_
                refine z_imul dX7_size_135 rfl ?_
                refine z_iload dX7_size_136 rfl rfl ?_
                obtain ⟨a16, h⟩ := h
                refine z_idiv dX7_size_138 a16 rfl ?_
                exact z_ret (some (.int ((p2 * v15) / p3))) (Or.inr (Or.inl ⟨_, _, rfl, rfl, rfl, dX7_size_139⟩)) zN200 ⟨_, rfl, h⟩
              · have h := zif h (by rw [c]; exact Bool.false_ne_true)
                refine z_iconst (v := (-1 : Int32)) dX7_size_77 (by decide) rfl ?_
                exact z_ret (some (.int (-1 : Int32))) (Or.inr (Or.inl ⟨_, _, rfl, rfl, rfl, dX7_size_78⟩)) zN200 ⟨_, rfl, h⟩
            · have h := zif h c
              refine z_iconst (v := (-1 : Int32)) dX7_size_42 (by decide) rfl ?_
              exact z_ret (some (.int (-1 : Int32))) (Or.inr (Or.inl ⟨_, _, rfl, rfl, rfl, dX7_size_43⟩)) zN200 ⟨_, rfl, h⟩
theorem dX7_hulls_0 : decode cX7_hulls 0 = .ok (.iload_n 1, 1) := by decide +kernel
theorem dX7_hulls_1 : decode cX7_hulls 1 = .ok (.invokestatic 286, 3) := by decide +kernel
theorem dX7_hulls_4 : decode cX7_hulls 4 = .ok (.ifCond .eq 12, 3) := by decide +kernel
theorem dX7_hulls_7 : decode cX7_hulls 7 = .ok (.iload_n 2, 1) := by decide +kernel
theorem dX7_hulls_8 : decode cX7_hulls 8 = .ok (.ifCond .lt 8, 3) := by decide +kernel
theorem dX7_hulls_11 : decode cX7_hulls 11 = .ok (.iload_n 2, 1) := by decide +kernel
theorem dX7_hulls_12 : decode cX7_hulls 12 = .ok (.iconst 1, 1) := by decide +kernel
theorem dX7_hulls_13 : decode cX7_hulls 13 = .ok (.if_icmp .le 5, 3) := by decide +kernel
theorem dX7_hulls_16 : decode cX7_hulls 16 = .ok (.iconst (-1), 1) := by decide +kernel
theorem dX7_hulls_17 : decode cX7_hulls 17 = .ok (.ireturn, 1) := by decide +kernel
theorem dX7_hulls_18 : decode cX7_hulls 18 = .ok (.iconst 0, 1) := by decide +kernel
theorem dX7_hulls_19 : decode cX7_hulls 19 = .ok (.istore_n 3, 1) := by decide +kernel
theorem dX7_hulls_20 : decode cX7_hulls 20 = .ok (.iconst 0, 1) := by decide +kernel
theorem dX7_hulls_21 : decode cX7_hulls 21 = .ok (.istore 4, 2) := by decide +kernel
theorem dX7_hulls_23 : decode cX7_hulls 23 = .ok (.iload 4, 2) := by decide +kernel
theorem dX7_hulls_25 : decode cX7_hulls 25 = .ok (.aload_n 0, 1) := by decide +kernel
theorem dX7_hulls_26 : decode cX7_hulls 26 = .ok (.getfield 200, 3) := by decide +kernel
theorem dX7_hulls_29 : decode cX7_hulls 29 = .ok (.if_icmp .ge 48, 3) := by decide +kernel
theorem dX7_hulls_32 : decode cX7_hulls 32 = .ok (.aload_n 0, 1) := by decide +kernel
theorem dX7_hulls_33 : decode cX7_hulls 33 = .ok (.getfield 37, 3) := by decide +kernel
theorem dX7_hulls_36 : decode cX7_hulls 36 = .ok (.iload 4, 2) := by decide +kernel
theorem dX7_hulls_38 : decode cX7_hulls 38 = .ok (.aaload, 1) := by decide +kernel
theorem dX7_hulls_39 : decode cX7_hulls 39 = .ok (.astore 5, 2) := by decide +kernel
theorem dX7_hulls_41 : decode cX7_hulls 41 = .ok (.aload 5, 2) := by decide +kernel
theorem dX7_hulls_43 : decode cX7_hulls 43 = .ok (.getfield 224, 3) := by decide +kernel
theorem dX7_hulls_46 : decode cX7_hulls 46 = .ok (.iload_n 1, 1) := by decide +kernel
theorem dX7_hulls_47 : decode cX7_hulls 47 = .ok (.if_icmp .lt 24, 3) := by decide +kernel
theorem dX7_hulls_50 : decode cX7_hulls 50 = .ok (.aload 5, 2) := by decide +kernel
theorem dX7_hulls_52 : decode cX7_hulls 52 = .ok (.getfield 227, 3) := by decide +kernel
theorem dX7_hulls_55 : decode cX7_hulls 55 = .ok (.iload_n 2, 1) := by decide +kernel
theorem dX7_hulls_56 : decode cX7_hulls 56 = .ok (.if_icmp .lt 15, 3) := by decide +kernel
theorem dX7_hulls_59 : decode cX7_hulls 59 = .ok (.aload_n 0, 1) := by decide +kernel
theorem dX7_hulls_60 : decode cX7_hulls 60 = .ok (.aload 5, 2) := by decide +kernel
theorem dX7_hulls_62 : decode cX7_hulls 62 = .ok (.invokevirtual 242, 3) := by decide +kernel
theorem dX7_hulls_65 : decode cX7_hulls 65 = .ok (.ifCond .eq 6, 3) := by decide +kernel
theorem dX7_hulls_68 : decode cX7_hulls 68 = .ok (.iinc 3 1, 3) := by decide +kernel
theorem dX7_hulls_71 : decode cX7_hulls 71 = .ok (.iinc 4 1, 3) := by decide +kernel
theorem dX7_hulls_74 : decode cX7_hulls 74 = .ok (.goto (-51), 3) := by decide +kernel
theorem dX7_hulls_77 : decode cX7_hulls 77 = .ok (.iload_n 3, 1) := by decide +kernel
theorem dX7_hulls_78 : decode cX7_hulls 78 = .ok (.ireturn, 1) := by decide +kernel
set_option maxHeartbeats 4000000 in
set_option maxRecDepth 100000 in
theorem t_X7_hulls {l : Launch} {g : zG} {d : Nat} {s : zS} (hR : zRok s) {p0 : Int32} {p1 : Int32} {K : Int32 → zS → Prop} (h : (zc l g d M_X7_isLights [.int p0] s (zKz (fun b2 s1 => s1.2.2.1 = s.2.2.1 ∧ (if b2 = true then (if p1 < 0 then K (-1 : Int32) s1 else (if p1 ≤ (1 : Int32) then zt l g (d + 1) M_X7_hulls 23 [.ref 64, .int p0, .int p1, .int (0 : Int32), .int (0 : Int32), zJ] [] s1 (zKi K) else K (-1 : Int32) s1)) else K (-1 : Int32) s1))))) : zc l g (d + 1) M_X7_hulls [.ref 64, .int p0, .int p1] s (zKi K) := by
  refine zCall_of k_X7_hulls (Nat.le_of_ble_eq_true rfl) (Nat.le_refl _) (fun _ => ?_)
  show zt l g (d + 1) M_X7_hulls 0 [.ref 64, .int p0, .int p1, zJ, zJ, zJ] [] s (zKi K)
  refine z_iload_n (i := 1) dX7_hulls_0 rfl rfl rfl ?_
  refine z_callS (as := [.int p0]) k_X7_isLights m_X7_286 rfl h rfl (Nat.le_of_ble_eq_true rfl) dX7_hulls_1 zy200 rfl ?_
  rintro v s1 ⟨b2, rfl, hRs1, h⟩
  show zt l g (d + 1) M_X7_hulls 4 [.ref 64, .int p0, .int p1, zJ, zJ, zJ] [.int (zb b2)] s1 _
  refine z_ifb_eq (pt := 16) dX7_hulls_4 (by decide) rfl (fun c => ?_) (fun c => ?_)
  · have h := zif h (by rw [c]; exact Bool.false_ne_true)
    refine z_iconst (v := (-1 : Int32)) dX7_hulls_16 (by decide) rfl ?_
    exact z_ret (some (.int (-1 : Int32))) (Or.inr (Or.inl ⟨_, _, rfl, rfl, rfl, dX7_hulls_17⟩)) zN200 ⟨_, rfl, h⟩
  · have h := zit h c
    refine z_iload_n (i := 2) dX7_hulls_7 rfl rfl rfl ?_
    refine z_if_lt (pt := 16) dX7_hulls_8 (by decide) rfl (fun c => ?_) (fun c => ?_)
    · have h := zit h c
      refine z_iconst (v := (-1 : Int32)) dX7_hulls_16 (by decide) rfl ?_
      exact z_ret (some (.int (-1 : Int32))) (Or.inr (Or.inl ⟨_, _, rfl, rfl, rfl, dX7_hulls_17⟩)) zN200 ⟨_, rfl, h⟩
    · have h := zif h c
      refine z_iload_n (i := 2) dX7_hulls_11 rfl rfl rfl ?_
      refine z_iconst (v := (1 : Int32)) dX7_hulls_12 (by decide) rfl ?_
      refine z_icmp_le (pt := 18) dX7_hulls_13 (by decide) rfl (fun c => ?_) (fun c => ?_)
      · have h := zit h c
        refine z_iconst (v := (0 : Int32)) dX7_hulls_18 (by decide) rfl ?_
        refine z_istore_n (i := 3) dX7_hulls_19 rfl (by decide) (zokd rfl) rfl ?_
        show zt l g (d + 1) M_X7_hulls 20 [.ref 64, .int p0, .int p1, .int (0 : Int32), zJ, zJ] [] s1 _
        refine z_iconst (v := (0 : Int32)) dX7_hulls_20 (by decide) rfl ?_
        refine z_istore dX7_hulls_21 (by decide) (zokd rfl) rfl ?_
        show zt l g (d + 1) M_X7_hulls 23 [.ref 64, .int p0, .int p1, .int (0 : Int32), .int (0 : Int32), zJ] [] s1 _
        exact h
      · have h := zif h c
        refine z_iconst (v := (-1 : Int32)) dX7_hulls_16 (by decide) rfl ?_
        exact z_ret (some (.int (-1 : Int32))) (Or.inr (Or.inl ⟨_, _, rfl, rfl, rfl, dX7_hulls_17⟩)) zN200 ⟨_, rfl, h⟩
set_option maxHeartbeats 4000000 in
set_option maxRecDepth 100000 in
theorem t_X7_hulls_23 {l : Launch} {g : zG} {d : Nat} {s : zS} (hR : zRok s) {x1 : Int32} {x2 : Int32} {x3 : Int32} {x4 : Int32} {K : Int32 → zS → Prop} (h : (if (s.1 64 7) ≤ x4 then K x3 s else (vp_in x4 60 ∧ (if (s.1 (104 + x4.toNatClampNeg) 7) < x1 then zt l g (d + 1) M_X7_hulls 23 [.ref 64, .int x1, .int x2, .int x3, .int (x4 + (1 : Int32)), zJ] [] s (zKi K) else (if (s.1 (104 + x4.toNatClampNeg) 8) < x2 then zt l g (d + 1) M_X7_hulls 23 [.ref 64, .int x1, .int x2, .int x3, .int (x4 + (1 : Int32)), zJ] [] s (zKi K) else (zc l g d M_X7_fittingOf [.ref 64, .ref (104 + x4.toNatClampNeg)] s (zKi (fun r3 s2 => s2.2.2.1 = s.2.2.1 ∧ (if r3 = 0 then zt l g (d + 1) M_X7_hulls 23 [.ref 64, .int x1, .int x2, .int x3, .int (x4 + (1 : Int32)), zJ] [] s2 (zKi K) else zt l g (d + 1) M_X7_hulls 23 [.ref 64, .int x1, .int x2, .int (x3 + (1 : Int32)), .int (x4 + (1 : Int32)), zJ] [] s2 (zKi K)))))))))) : zt l g (d + 1) M_X7_hulls 23 [.ref 64, .int x1, .int x2, .int x3, .int x4, zJ] [] s (zKi K) := by
  refine z_iload dX7_hulls_23 rfl rfl ?_
  refine z_aload_n (i := 0) dX7_hulls_25 rfl rfl rfl ?_
  refine z_getI (x := s.1 64 7) rfl f_X7_200 i_64 rfl dX7_hulls_26 rfl ?_
  refine z_icmp_ge (pt := 77) dX7_hulls_29 (by decide) rfl (fun c => ?_) (fun c => ?_)
  · have h := zit h c
    refine z_iload_n (i := 3) dX7_hulls_77 rfl rfl rfl ?_
    exact z_ret (some (.int x3)) (Or.inr (Or.inl ⟨_, _, rfl, rfl, rfl, dX7_hulls_78⟩)) zN200 ⟨_, rfl, h⟩
  · have h := zif h c
    refine z_aload_n (i := 0) dX7_hulls_32 rfl rfl rfl ?_
    refine z_getR (q := 71) f_X7_37 i_64 rfl (r_64_6 hR) (by decide) dX7_hulls_33 rfl ?_
    refine z_iload dX7_hulls_36 rfl rfl ?_
    obtain ⟨a1, h⟩ := h
    have wa1 := vin a1
    refine z_aald (q := 104 + x4.toNatClampNeg) (by decide) a_71 a1 (r_71 hR a1) (by omega) dX7_hulls_38 rfl ?_
    refine z_astore dX7_hulls_39 (by decide) (zokd rfl) rfl ?_
    show zt l g (d + 1) M_X7_hulls 41 [.ref 64, .int x1, .int x2, .int x3, .int x4, .ref (104 + x4.toNatClampNeg)] [] s _
    refine z_aload dX7_hulls_41 rfl rfl ?_
    refine z_getI (x := s.1 (104 + x4.toNatClampNeg) 7) rfl f_X7_224 (i_Te (p_71 a1)) rfl dX7_hulls_43 rfl ?_
    refine z_iload_n (i := 1) dX7_hulls_46 rfl rfl rfl ?_
    refine z_icmp_lt (pt := 71) dX7_hulls_47 (by decide) rfl (fun c => ?_) (fun c => ?_)
    · have h := zit h c
      refine z_iinc (v := x4 + (1 : Int32)) dX7_hulls_71 rfl rfl (by decide) (zokd rfl) rfl ?_
      show zt l g (d + 1) M_X7_hulls 74 [.ref 64, .int x1, .int x2, .int x3, .int (x4 + (1 : Int32)), .ref (104 + x4.toNatClampNeg)] [] s _
      refine z_goto (pn := 23) dX7_hulls_74 (by decide) ?_
      refine z_wk (ls' := [.ref 64, .int x1, .int x2, .int x3, .int (x4 + (1 : Int32)), zJ]) ⟨Or.inr rfl, Or.inr rfl, Or.inr rfl, Or.inr rfl, Or.inr rfl, Or.inl rfl, trivial⟩ ?_
      exact h
    · have h := zif h c
      refine z_aload dX7_hulls_50 rfl rfl ?_
      refine z_getI (x := s.1 (104 + x4.toNatClampNeg) 8) rfl f_X7_227 (i_Te (p_71 a1)) rfl dX7_hulls_52 rfl ?_
      refine z_iload_n (i := 2) dX7_hulls_55 rfl rfl rfl ?_
      refine z_icmp_lt (pt := 71) dX7_hulls_56 (by decide) rfl (fun c => ?_) (fun c => ?_)
      · have h := zit h c
        refine z_iinc (v := x4 + (1 : Int32)) dX7_hulls_71 rfl rfl (by decide) (zokd rfl) rfl ?_
        show zt l g (d + 1) M_X7_hulls 74 [.ref 64, .int x1, .int x2, .int x3, .int (x4 + (1 : Int32)), .ref (104 + x4.toNatClampNeg)] [] s _
        refine z_goto (pn := 23) dX7_hulls_74 (by decide) ?_
        refine z_wk (ls' := [.ref 64, .int x1, .int x2, .int x3, .int (x4 + (1 : Int32)), zJ]) ⟨Or.inr rfl, Or.inr rfl, Or.inr rfl, Or.inr rfl, Or.inr rfl, Or.inl rfl, trivial⟩ ?_
        exact h
      · have h := zif h c
        refine z_aload_n (i := 0) dX7_hulls_59 rfl rfl rfl ?_
        refine z_aload dX7_hulls_60 rfl rfl ?_
        refine z_callV k_X7_fittingOf m_X7_242 (zRec_of i_64) rfl h rfl (Nat.le_of_ble_eq_true rfl) dX7_hulls_62 zy200 rfl ?_
        rintro v s2 ⟨r3, rfl, hRs2, h⟩
        show zt l g (d + 1) M_X7_hulls 65 [.ref 64, .int x1, .int x2, .int x3, .int x4, .ref (104 + x4.toNatClampNeg)] [.int r3] s2 _
        refine z_if_eq (pt := 71) dX7_hulls_65 (by decide) rfl (fun c => ?_) (fun c => ?_)
        · have h := zit h c
          refine z_iinc (v := x4 + (1 : Int32)) dX7_hulls_71 rfl rfl (by decide) (zokd rfl) rfl ?_
          show zt l g (d + 1) M_X7_hulls 74 [.ref 64, .int x1, .int x2, .int x3, .int (x4 + (1 : Int32)), .ref (104 + x4.toNatClampNeg)] [] s2 _
          refine z_goto (pn := 23) dX7_hulls_74 (by decide) ?_
          refine z_wk (ls' := [.ref 64, .int x1, .int x2, .int x3, .int (x4 + (1 : Int32)), zJ]) ⟨Or.inr rfl, Or.inr rfl, Or.inr rfl, Or.inr rfl, Or.inr rfl, Or.inl rfl, trivial⟩ ?_
          exact h
        · have h := zif h c
          refine z_iinc (v := x3 + (1 : Int32)) dX7_hulls_68 rfl rfl (by decide) (zokd rfl) rfl ?_
          show zt l g (d + 1) M_X7_hulls 71 [.ref 64, .int x1, .int x2, .int (x3 + (1 : Int32)), .int x4, .ref (104 + x4.toNatClampNeg)] [] s2 _
          refine z_iinc (v := x4 + (1 : Int32)) dX7_hulls_71 rfl rfl (by decide) (zokd rfl) rfl ?_
          show zt l g (d + 1) M_X7_hulls 74 [.ref 64, .int x1, .int x2, .int (x3 + (1 : Int32)), .int (x4 + (1 : Int32)), .ref (104 + x4.toNatClampNeg)] [] s2 _
          refine z_goto (pn := 23) dX7_hulls_74 (by decide) ?_
          refine z_wk (ls' := [.ref 64, .int x1, .int x2, .int (x3 + (1 : Int32)), .int (x4 + (1 : Int32)), zJ]) ⟨Or.inr rfl, Or.inr rfl, Or.inr rfl, Or.inr rfl, Or.inr rfl, Or.inl rfl, trivial⟩ ?_
          exact h
theorem dX7_ask_0 : decode cX7_ask 0 = .ok (.iconst (-1), 1) := by decide +kernel
theorem dX7_ask_1 : decode cX7_ask 1 = .ok (.istore_n 2, 1) := by decide +kernel
theorem dX7_ask_2 : decode cX7_ask 2 = .ok (.iconst 0, 1) := by decide +kernel
theorem dX7_ask_3 : decode cX7_ask 3 = .ok (.istore_n 3, 1) := by decide +kernel
theorem dX7_ask_4 : decode cX7_ask 4 = .ok (.iconst 0, 1) := by decide +kernel
theorem dX7_ask_5 : decode cX7_ask 5 = .ok (.istore 4, 2) := by decide +kernel
theorem dX7_ask_7 : decode cX7_ask 7 = .ok (.iload 4, 2) := by decide +kernel
theorem dX7_ask_9 : decode cX7_ask 9 = .ok (.aload_n 0, 1) := by decide +kernel
theorem dX7_ask_10 : decode cX7_ask 10 = .ok (.getfield 200, 3) := by decide +kernel
theorem dX7_ask_13 : decode cX7_ask 13 = .ok (.if_icmp .ge 48, 3) := by decide +kernel
theorem dX7_ask_16 : decode cX7_ask 16 = .ok (.aload_n 0, 1) := by decide +kernel
theorem dX7_ask_17 : decode cX7_ask 17 = .ok (.aload_n 0, 1) := by decide +kernel
theorem dX7_ask_18 : decode cX7_ask 18 = .ok (.getfield 37, 3) := by decide +kernel
theorem dX7_ask_21 : decode cX7_ask 21 = .ok (.iload 4, 2) := by decide +kernel
theorem dX7_ask_23 : decode cX7_ask 23 = .ok (.aaload, 1) := by decide +kernel
theorem dX7_ask_24 : decode cX7_ask 24 = .ok (.invokevirtual 289, 3) := by decide +kernel
theorem dX7_ask_27 : decode cX7_ask 27 = .ok (.aload_n 0, 1) := by decide +kernel
theorem dX7_ask_28 : decode cX7_ask 28 = .ok (.getfield 37, 3) := by decide +kernel
theorem dX7_ask_31 : decode cX7_ask 31 = .ok (.iload 4, 2) := by decide +kernel
theorem dX7_ask_33 : decode cX7_ask 33 = .ok (.aaload, 1) := by decide +kernel
theorem dX7_ask_34 : decode cX7_ask 34 = .ok (.getfield 293, 3) := by decide +kernel
theorem dX7_ask_37 : decode cX7_ask 37 = .ok (.iload_n 3, 1) := by decide +kernel
theorem dX7_ask_38 : decode cX7_ask 38 = .ok (.if_icmp .le 17, 3) := by decide +kernel
theorem dX7_ask_41 : decode cX7_ask 41 = .ok (.iload 4, 2) := by decide +kernel
theorem dX7_ask_43 : decode cX7_ask 43 = .ok (.istore_n 2, 1) := by decide +kernel
theorem dX7_ask_44 : decode cX7_ask 44 = .ok (.aload_n 0, 1) := by decide +kernel
theorem dX7_ask_45 : decode cX7_ask 45 = .ok (.getfield 37, 3) := by decide +kernel
theorem dX7_ask_48 : decode cX7_ask 48 = .ok (.iload 4, 2) := by decide +kernel
theorem dX7_ask_50 : decode cX7_ask 50 = .ok (.aaload, 1) := by decide +kernel
theorem dX7_ask_51 : decode cX7_ask 51 = .ok (.getfield 293, 3) := by decide +kernel
theorem dX7_ask_54 : decode cX7_ask 54 = .ok (.istore_n 3, 1) := by decide +kernel
theorem dX7_ask_55 : decode cX7_ask 55 = .ok (.iinc 4 1, 3) := by decide +kernel
theorem dX7_ask_58 : decode cX7_ask 58 = .ok (.goto (-51), 3) := by decide +kernel
theorem dX7_ask_61 : decode cX7_ask 61 = .ok (.iload_n 2, 1) := by decide +kernel
theorem dX7_ask_62 : decode cX7_ask 62 = .ok (.iconst (-1), 1) := by decide +kernel
theorem dX7_ask_63 : decode cX7_ask 63 = .ok (.if_icmp .ne 5, 3) := by decide +kernel
theorem dX7_ask_66 : decode cX7_ask 66 = .ok (.iconst (-1), 1) := by decide +kernel
theorem dX7_ask_67 : decode cX7_ask 67 = .ok (.ireturn, 1) := by decide +kernel
theorem dX7_ask_68 : decode cX7_ask 68 = .ok (.iload_n 1, 1) := by decide +kernel
theorem dX7_ask_69 : decode cX7_ask 69 = .ok (.tableswitch 41 0 2 #[27, 29, 39], 27) := by decide +kernel
theorem dX7_ask_96 : decode cX7_ask 96 = .ok (.iload_n 2, 1) := by decide +kernel
theorem dX7_ask_97 : decode cX7_ask 97 = .ok (.ireturn, 1) := by decide +kernel
theorem dX7_ask_98 : decode cX7_ask 98 = .ok (.aload_n 0, 1) := by decide +kernel
theorem dX7_ask_99 : decode cX7_ask 99 = .ok (.getfield 37, 3) := by decide +kernel
theorem dX7_ask_102 : decode cX7_ask 102 = .ok (.iload_n 2, 1) := by decide +kernel
theorem dX7_ask_103 : decode cX7_ask 103 = .ok (.aaload, 1) := by decide +kernel
theorem dX7_ask_104 : decode cX7_ask 104 = .ok (.getfield 296, 3) := by decide +kernel
theorem dX7_ask_107 : decode cX7_ask 107 = .ok (.ireturn, 1) := by decide +kernel
theorem dX7_ask_108 : decode cX7_ask 108 = .ok (.iload_n 3, 1) := by decide +kernel
theorem dX7_ask_109 : decode cX7_ask 109 = .ok (.ireturn, 1) := by decide +kernel
theorem dX7_ask_110 : decode cX7_ask 110 = .ok (.iconst (-1), 1) := by decide +kernel
theorem dX7_ask_111 : decode cX7_ask 111 = .ok (.ireturn, 1) := by decide +kernel
set_option maxHeartbeats 4000000 in
set_option maxRecDepth 100000 in
theorem t_X7_ask {l : Launch} {g : zG} {d : Nat} {s : zS} (hR : zRok s) {p0 : Int32} {K : Int32 → zS → Prop} (h : zt l g (d + 1) M_X7_ask 7 [.ref 64, .int p0, .int (-1 : Int32), .int (0 : Int32), .int (0 : Int32)] [] s (zKi K)) : zc l g (d + 1) M_X7_ask [.ref 64, .int p0] s (zKi K) := by
  refine zCall_of k_X7_ask (Nat.le_of_ble_eq_true rfl) (Nat.le_refl _) (fun _ => ?_)
  show zt l g (d + 1) M_X7_ask 0 [.ref 64, .int p0, zJ, zJ, zJ] [] s (zKi K)
  refine z_iconst (v := (-1 : Int32)) dX7_ask_0 (by decide) rfl ?_
  refine z_istore_n (i := 2) dX7_ask_1 rfl (by decide) (zokd rfl) rfl ?_
  show zt l g (d + 1) M_X7_ask 2 [.ref 64, .int p0, .int (-1 : Int32), zJ, zJ] [] s _
  refine z_iconst (v := (0 : Int32)) dX7_ask_2 (by decide) rfl ?_
  refine z_istore_n (i := 3) dX7_ask_3 rfl (by decide) (zokd rfl) rfl ?_
  show zt l g (d + 1) M_X7_ask 4 [.ref 64, .int p0, .int (-1 : Int32), .int (0 : Int32), zJ] [] s _
  refine z_iconst (v := (0 : Int32)) dX7_ask_4 (by decide) rfl ?_
  refine z_istore dX7_ask_5 (by decide) (zokd rfl) rfl ?_
  show zt l g (d + 1) M_X7_ask 7 [.ref 64, .int p0, .int (-1 : Int32), .int (0 : Int32), .int (0 : Int32)] [] s _
  exact h
set_option maxHeartbeats 4000000 in
set_option maxRecDepth 100000 in
theorem t_X7_ask_7 {l : Launch} {g : zG} {d : Nat} {s : zS} (hR : zRok s) {x1 : Int32} {x2 : Int32} {x3 : Int32} {x4 : Int32} {K : Int32 → zS → Prop} (h : (if (s.1 64 7) ≤ x4 then (if x2 = (-1 : Int32) then K (-1 : Int32) s else (if x1 = (0 : Int32) then K x2 s else (if x1 = (1 : Int32) then (vp_in x2 60 ∧ K (s.1 (104 + x2.toNatClampNeg) 12) s) else (if x1 = (2 : Int32) then K x3 s else K (-1 : Int32) s)))) else (vp_in x4 60 ∧ (zc l g d M_X7_weighMinutes [.ref 64, .ref (104 + x4.toNatClampNeg)] s (zKv (fun s3 => s3.2.2.1 = s.2.2.1 ∧ (vp_in x4 60 ∧ (if (s3.1 (104 + x4.toNatClampNeg) 11) ≤ x3 then zt l g (d + 1) M_X7_ask 7 [.ref 64, .int x1, .int x2, .int x3, .int (x4 + (1 : Int32))] [] s3 (zKi K) else (vp_in x4 60 ∧ (∀ v6 : Int32, v6 = s3.1 (104 + x4.toNatClampNeg) 11 → zt l g (d + 1) M_X7_ask 7 [.ref 64, .int x1, .int x4, .int v6, .int (x4 + (1 : Int32))] [] s3 (zKi K))))))))))) : zt l g (d + 1) M_X7_ask 7 [.ref 64, .int x1, .int x2, .int x3, .int x4] [] s (zKi K) := by
  refine z_iload dX7_ask_7 rfl rfl ?_
  refine z_aload_n (i := 0) dX7_ask_9 rfl rfl rfl ?_
  refine z_getI (x := s.1 64 7) rfl f_X7_200 i_64 rfl dX7_ask_10 rfl ?_
  refine z_icmp_ge (pt := 61) dX7_ask_13 (by decide) rfl (fun c => ?_) (fun c => ?_)
  · have h := zit h c
    refine z_iload_n (i := 2) dX7_ask_61 rfl rfl rfl ?_
    refine z_iconst (v := (-1 : Int32)) dX7_ask_62 (by decide) rfl ?_
    refine z_icmp_ne (pt := 68) dX7_ask_63 (by decide) rfl (fun c => ?_) (fun c => ?_)
    · have h := zif h c
      refine z_iload_n (i := 1) dX7_ask_68 rfl rfl rfl ?_
      by_cases c0 : x1 = (0 : Int32)
      · have h := zit h c0
        refine z_tableIn (pt := 96) dX7_ask_69 (by rw [c0]; decide) (by rw [c0]; decide) (by rw [c0]; rfl) (by decide) ?_
        refine z_iload_n (i := 2) dX7_ask_96 rfl rfl rfl ?_
        exact z_ret (some (.int x2)) (Or.inr (Or.inl ⟨_, _, rfl, rfl, rfl, dX7_ask_97⟩)) zN200 ⟨_, rfl, h⟩
      have h := zif h c0
      by_cases c1 : x1 = (1 : Int32)
      · have h := zit h c1
        refine z_tableIn (pt := 98) dX7_ask_69 (by rw [c1]; decide) (by rw [c1]; decide) (by rw [c1]; rfl) (by decide) ?_
        refine z_aload_n (i := 0) dX7_ask_98 rfl rfl rfl ?_
        refine z_getR (q := 71) f_X7_37 i_64 rfl (r_64_6 hR) (by decide) dX7_ask_99 rfl ?_
        refine z_iload_n (i := 2) dX7_ask_102 rfl rfl rfl ?_
        obtain ⟨a1, h⟩ := h
        have wa1 := vin a1
        refine z_aald (q := 104 + x2.toNatClampNeg) (by decide) a_71 a1 (r_71 hR a1) (by omega) dX7_ask_103 rfl ?_
        refine z_getI (x := s.1 (104 + x2.toNatClampNeg) 12) rfl f_X7_296 (i_Te (p_71 a1)) rfl dX7_ask_104 rfl ?_
        exact z_ret (some (.int (s.1 (104 + x2.toNatClampNeg) 12))) (Or.inr (Or.inl ⟨_, _, rfl, rfl, rfl, dX7_ask_107⟩)) zN200 ⟨_, rfl, h⟩
      have h := zif h c1
      by_cases c2 : x1 = (2 : Int32)
      · have h := zit h c2
        refine z_tableIn (pt := 108) dX7_ask_69 (by rw [c2]; decide) (by rw [c2]; decide) (by rw [c2]; rfl) (by decide) ?_
        refine z_iload_n (i := 3) dX7_ask_108 rfl rfl rfl ?_
        exact z_ret (some (.int x3)) (Or.inr (Or.inl ⟨_, _, rfl, rfl, rfl, dX7_ask_109⟩)) zN200 ⟨_, rfl, h⟩
      have h := zif h c2
      refine z_tableOut (pt := 110) dX7_ask_69 (z_swout 0 3 (fun j hj => ?_)) (by decide) ?_
      · rcases (show j = 0 ∨ j = 1 ∨ j = 2 by omega) with rfl | rfl | rfl
        · exact c0
        · exact c1
        · exact c2
      · refine z_iconst (v := (-1 : Int32)) dX7_ask_110 (by decide) rfl ?_
        exact z_ret (some (.int (-1 : Int32))) (Or.inr (Or.inl ⟨_, _, rfl, rfl, rfl, dX7_ask_111⟩)) zN200 ⟨_, rfl, h⟩
    · have h := zit h c
      refine z_iconst (v := (-1 : Int32)) dX7_ask_66 (by decide) rfl ?_
      exact z_ret (some (.int (-1 : Int32))) (Or.inr (Or.inl ⟨_, _, rfl, rfl, rfl, dX7_ask_67⟩)) zN200 ⟨_, rfl, h⟩
  · have h := zif h c
    refine z_aload_n (i := 0) dX7_ask_16 rfl rfl rfl ?_
    refine z_aload_n (i := 0) dX7_ask_17 rfl rfl rfl ?_
    refine z_getR (q := 71) f_X7_37 i_64 rfl (r_64_6 hR) (by decide) dX7_ask_18 rfl ?_
    refine z_iload dX7_ask_21 rfl rfl ?_
    obtain ⟨a2, h⟩ := h
    have wa2 := vin a2
    refine z_aald (q := 104 + x4.toNatClampNeg) (by decide) a_71 a2 (r_71 hR a2) (by omega) dX7_ask_23 rfl ?_
    refine z_callV k_X7_weighMinutes m_X7_289 (zRec_of i_64) rfl h rfl (Nat.le_of_ble_eq_true rfl) dX7_ask_24 zy200 rfl ?_
    rintro v s3 ⟨rfl, hRs3, h⟩
    show zt l g (d + 1) M_X7_ask 27 [.ref 64, .int x1, .int x2, .int x3, .int x4] [] s3 _
    refine z_aload_n (i := 0) dX7_ask_27 rfl rfl rfl ?_
    refine z_getR (q := 71) f_X7_37 i_64 rfl (r_64_6 (zRok_of hRs3 hR)) (by decide) dX7_ask_28 rfl ?_
    refine z_iload dX7_ask_31 rfl rfl ?_
    obtain ⟨a4, h⟩ := h
    have wa4 := vin a4
    refine z_aald (q := 104 + x4.toNatClampNeg) (by decide) a_71 a4 (r_71 (zRok_of hRs3 hR) a4) (by omega) dX7_ask_33 rfl ?_
    refine z_getI (x := s3.1 (104 + x4.toNatClampNeg) 11) rfl f_X7_293 (i_Te (p_71 a4)) rfl dX7_ask_34 rfl ?_
    refine z_iload_n (i := 3) dX7_ask_37 rfl rfl rfl ?_
    refine z_icmp_le (pt := 55) dX7_ask_38 (by decide) rfl (fun c => ?_) (fun c => ?_)
    · have h := zit h c
      refine z_iinc (v := x4 + (1 : Int32)) dX7_ask_55 rfl rfl (by decide) (zokd rfl) rfl ?_
      show zt l g (d + 1) M_X7_ask 58 [.ref 64, .int x1, .int x2, .int x3, .int (x4 + (1 : Int32))] [] s3 _
      refine z_goto (pn := 7) dX7_ask_58 (by decide) ?_
      exact h
    · have h := zif h c
      refine z_iload dX7_ask_41 rfl rfl ?_
      refine z_istore_n (i := 2) dX7_ask_43 rfl (by decide) (zokd rfl) rfl ?_
      show zt l g (d + 1) M_X7_ask 44 [.ref 64, .int x1, .int x4, .int x3, .int x4] [] s3 _
      refine z_aload_n (i := 0) dX7_ask_44 rfl rfl rfl ?_
      refine z_getR (q := 71) f_X7_37 i_64 rfl (r_64_6 (zRok_of hRs3 hR)) (by decide) dX7_ask_45 rfl ?_
      refine z_iload dX7_ask_48 rfl rfl ?_
      obtain ⟨a5, h⟩ := h
      have wa5 := vin a5
      refine z_aald (q := 104 + x4.toNatClampNeg) (by decide) a_71 a5 (r_71 (zRok_of hRs3 hR) a5) (by omega) dX7_ask_50 rfl ?_
      refine z_getI (x := s3.1 (104 + x4.toNatClampNeg) 11) rfl f_X7_293 (i_Te (p_71 a5)) rfl dX7_ask_51 rfl ?_
      refine z_istore_n (i := 3) dX7_ask_54 rfl (by decide) (zokd rfl) rfl ?_
      obtain ⟨v6, ev6⟩ : ∃ x : Int32, x = s3.1 (104 + x4.toNatClampNeg) 11 := ⟨_, rfl⟩
      rw [← ev6]
      have h := h v6 ev6
      show zt l g (d + 1) M_X7_ask 55 [.ref 64, .int x1, .int x4, .int v6, .int x4] [] s3 _
      refine z_iinc (v := x4 + (1 : Int32)) dX7_ask_55 rfl rfl (by decide) (zokd rfl) rfl ?_
      show zt l g (d + 1) M_X7_ask 58 [.ref 64, .int x1, .int x4, .int v6, .int (x4 + (1 : Int32))] [] s3 _
      refine z_goto (pn := 7) dX7_ask_58 (by decide) ?_
      exact h
theorem dX7_feed_0 : decode cX7_feed 0 = .ok (.aload_n 0, 1) := by decide +kernel
theorem dX7_feed_1 : decode cX7_feed 1 = .ok (.getfield 67, 3) := by decide +kernel
theorem dX7_feed_4 : decode cX7_feed 4 = .ok (.getfield 299, 3) := by decide +kernel
theorem dX7_feed_7 : decode cX7_feed 7 = .ok (.bipush 20, 2) := by decide +kernel
theorem dX7_feed_9 : decode cX7_feed 9 = .ok (.iadd, 1) := by decide +kernel
theorem dX7_feed_10 : decode cX7_feed 10 = .ok (.sipush 400, 3) := by decide +kernel
theorem dX7_feed_13 : decode cX7_feed 13 = .ok (.if_icmp .le 5, 3) := by decide +kernel
theorem dX7_feed_16 : decode cX7_feed 16 = .ok (.iconst (-1), 1) := by decide +kernel
theorem dX7_feed_17 : decode cX7_feed 17 = .ok (.ireturn, 1) := by decide +kernel
theorem dX7_feed_18 : decode cX7_feed 18 = .ok (.aload_n 0, 1) := by decide +kernel
theorem dX7_feed_19 : decode cX7_feed 19 = .ok (.getfield 67, 3) := by decide +kernel
theorem dX7_feed_22 : decode cX7_feed 22 = .ok (.iload_n 1, 1) := by decide +kernel
theorem dX7_feed_23 : decode cX7_feed 23 = .ok (.invokevirtual 302, 3) := by decide +kernel
theorem dX7_feed_26 : decode cX7_feed 26 = .ok (.aload_n 0, 1) := by decide +kernel
theorem dX7_feed_27 : decode cX7_feed 27 = .ok (.getfield 67, 3) := by decide +kernel
theorem dX7_feed_30 : decode cX7_feed 30 = .ok (.iload_n 2, 1) := by decide +kernel
theorem dX7_feed_31 : decode cX7_feed 31 = .ok (.invokevirtual 302, 3) := by decide +kernel
theorem dX7_feed_34 : decode cX7_feed 34 = .ok (.aload_n 0, 1) := by decide +kernel
theorem dX7_feed_35 : decode cX7_feed 35 = .ok (.getfield 67, 3) := by decide +kernel
theorem dX7_feed_38 : decode cX7_feed 38 = .ok (.iload_n 3, 1) := by decide +kernel
theorem dX7_feed_39 : decode cX7_feed 39 = .ok (.invokevirtual 302, 3) := by decide +kernel
theorem dX7_feed_42 : decode cX7_feed 42 = .ok (.aload_n 0, 1) := by decide +kernel
theorem dX7_feed_43 : decode cX7_feed 43 = .ok (.getfield 67, 3) := by decide +kernel
theorem dX7_feed_46 : decode cX7_feed 46 = .ok (.iload 4, 2) := by decide +kernel
theorem dX7_feed_48 : decode cX7_feed 48 = .ok (.invokevirtual 302, 3) := by decide +kernel
theorem dX7_feed_51 : decode cX7_feed 51 = .ok (.aload_n 0, 1) := by decide +kernel
theorem dX7_feed_52 : decode cX7_feed 52 = .ok (.getfield 67, 3) := by decide +kernel
theorem dX7_feed_55 : decode cX7_feed 55 = .ok (.iload 5, 2) := by decide +kernel
theorem dX7_feed_57 : decode cX7_feed 57 = .ok (.invokevirtual 302, 3) := by decide +kernel
theorem dX7_feed_60 : decode cX7_feed 60 = .ok (.aload_n 0, 1) := by decide +kernel
theorem dX7_feed_61 : decode cX7_feed 61 = .ok (.getfield 67, 3) := by decide +kernel
theorem dX7_feed_64 : decode cX7_feed 64 = .ok (.getfield 299, 3) := by decide +kernel
theorem dX7_feed_67 : decode cX7_feed 67 = .ok (.ireturn, 1) := by decide +kernel
set_option maxHeartbeats 4000000 in
set_option maxRecDepth 100000 in
theorem t_X7_feed {l : Launch} {g : zG} {d : Nat} {s : zS} (hR : zRok s) {p0 : Int32} {p1 : Int32} {p2 : Int32} {p3 : Int32} {p4 : Int32} {K : Int32 → zS → Prop} (h : (if ((s.1 75 1) + (20 : Int32)) ≤ (400 : Int32) then (zc l g d M_X2_append [.ref 75, .int p0] s (zKv (fun s1 => s1.2.2.1 = s.2.2.1 ∧ (zc l g d M_X2_append [.ref 75, .int p1] s1 (zKv (fun s2 => s2.2.2.1 = s1.2.2.1 ∧ (zc l g d M_X2_append [.ref 75, .int p2] s2 (zKv (fun s3 => s3.2.2.1 = s2.2.2.1 ∧ (zc l g d M_X2_append [.ref 75, .int p3] s3 (zKv (fun s4 => s4.2.2.1 = s3.2.2.1 ∧ (zc l g d M_X2_append [.ref 75, .int p4] s4 (zKv (fun s5 => s5.2.2.1 = s4.2.2.1 ∧ K (s5.1 75 1) s5))))))))))))))) else K (-1 : Int32) s)) : zc l g (d + 1) M_X7_feed [.ref 64, .int p0, .int p1, .int p2, .int p3, .int p4] s (zKi K) := by
  refine zCall_of k_X7_feed (Nat.le_of_ble_eq_true rfl) (Nat.le_refl _) (fun _ => ?_)
  show zt l g (d + 1) M_X7_feed 0 [.ref 64, .int p0, .int p1, .int p2, .int p3, .int p4] [] s (zKi K)
  refine z_aload_n (i := 0) dX7_feed_0 rfl rfl rfl ?_
  refine z_getR (q := 75) f_X7_67 i_64 rfl (r_64_14 hR) (by decide) dX7_feed_1 rfl ?_
  refine z_getI (x := s.1 75 1) rfl f_X7_299 i_75 rfl dX7_feed_4 rfl ?_
  refine z_bipush (v := (20 : Int32)) dX7_feed_7 (by decide) rfl ?_
  refine z_iadd dX7_feed_9 rfl ?_
  refine z_sipush (v := (400 : Int32)) dX7_feed_10 (by decide) rfl ?_
  refine z_icmp_le (pt := 18) dX7_feed_13 (by decide) rfl (fun c => ?_) (fun c => ?_)
  · have h := zit h c
    refine z_aload_n (i := 0) dX7_feed_18 rfl rfl rfl ?_
    refine z_getR (q := 75) f_X7_67 i_64 rfl (r_64_14 hR) (by decide) dX7_feed_19 rfl ?_
    refine z_iload_n (i := 1) dX7_feed_22 rfl rfl rfl ?_
    refine z_callV k_X2_append m_X7_302 (zRec_of i_75) rfl h rfl (Nat.le_of_ble_eq_true rfl) dX7_feed_23 zy200 rfl ?_
    rintro v s1 ⟨rfl, hRs1, h⟩
    show zt l g (d + 1) M_X7_feed 26 [.ref 64, .int p0, .int p1, .int p2, .int p3, .int p4] [] s1 _
    refine z_aload_n (i := 0) dX7_feed_26 rfl rfl rfl ?_
    refine z_getR (q := 75) f_X7_67 i_64 rfl (r_64_14 (zRok_of hRs1 hR)) (by decide) dX7_feed_27 rfl ?_
    refine z_iload_n (i := 2) dX7_feed_30 rfl rfl rfl ?_
    refine z_callV k_X2_append m_X7_302 (zRec_of i_75) rfl h rfl (Nat.le_of_ble_eq_true rfl) dX7_feed_31 zy200 rfl ?_
    rintro v s2 ⟨rfl, hRs2, h⟩
    show zt l g (d + 1) M_X7_feed 34 [.ref 64, .int p0, .int p1, .int p2, .int p3, .int p4] [] s2 _
    refine z_aload_n (i := 0) dX7_feed_34 rfl rfl rfl ?_
    refine z_getR (q := 75) f_X7_67 i_64 rfl (r_64_14 (zRok_of hRs2 (zRok_of hRs1 hR))) (by decide) dX7_feed_35 rfl ?_
    refine z_iload_n (i := 3) dX7_feed_38 rfl rfl rfl ?_
    refine z_callV k_X2_append m_X7_302 (zRec_of i_75) rfl h rfl (Nat.le_of_ble_eq_true rfl) dX7_feed_39 zy200 rfl ?_
    rintro v s3 ⟨rfl, hRs3, h⟩
    show zt l g (d + 1) M_X7_feed 42 [.ref 64, .int p0, .int p1, .int p2, .int p3, .int p4] [] s3 _
    refine z_aload_n (i := 0) dX7_feed_42 rfl rfl rfl ?_
    refine z_getR (q := 75) f_X7_67 i_64 rfl (r_64_14 (zRok_of hRs3 (zRok_of hRs2 (zRok_of hRs1 hR)))) (by decide) dX7_feed_43 rfl ?_
    refine z_iload dX7_feed_46 rfl rfl ?_
    refine z_callV k_X2_append m_X7_302 (zRec_of i_75) rfl h rfl (Nat.le_of_ble_eq_true rfl) dX7_feed_48 zy200 rfl ?_
    rintro v s4 ⟨rfl, hRs4, h⟩
    show zt l g (d + 1) M_X7_feed 51 [.ref 64, .int p0, .int p1, .int p2, .int p3, .int p4] [] s4 _
    refine z_aload_n (i := 0) dX7_feed_51 rfl rfl rfl ?_
    refine z_getR (q := 75) f_X7_67 i_64 rfl (r_64_14 (zRok_of hRs4 (zRok_of hRs3 (zRok_of hRs2 (zRok_of hRs1 hR))))) (by decide) dX7_feed_52 rfl ?_
    refine z_iload dX7_feed_55 rfl rfl ?_
    refine z_callV k_X2_append m_X7_302 (zRec_of i_75) rfl h rfl (Nat.le_of_ble_eq_true rfl) dX7_feed_57 zy200 rfl ?_
    rintro v s5 ⟨rfl, hRs5, h⟩
    show zt l g (d + 1) M_X7_feed 60 [.ref 64, .int p0, .int p1, .int p2, .int p3, .int p4] [] s5 _
    refine z_aload_n (i := 0) dX7_feed_60 rfl rfl rfl ?_
    refine z_getR (q := 75) f_X7_67 i_64 rfl (r_64_14 (zRok_of hRs5 (zRok_of hRs4 (zRok_of hRs3 (zRok_of hRs2 (zRok_of hRs1 hR)))))) (by decide) dX7_feed_61 rfl ?_
    refine z_getI (x := s5.1 75 1) rfl f_X7_299 i_75 rfl dX7_feed_64 rfl ?_
    exact z_ret (some (.int (s5.1 75 1))) (Or.inr (Or.inl ⟨_, _, rfl, rfl, rfl, dX7_feed_67⟩)) zN200 ⟨_, rfl, h⟩
  · have h := zif h c
    refine z_iconst (v := (-1 : Int32)) dX7_feed_16 (by decide) rfl ?_
    exact z_ret (some (.int (-1 : Int32))) (Or.inr (Or.inl ⟨_, _, rfl, rfl, rfl, dX7_feed_17⟩)) zN200 ⟨_, rfl, h⟩
theorem dX7_end_0 : decode cX7_end 0 = .ok (.iload_n 1, 1) := by decide +kernel
theorem dX7_end_1 : decode cX7_end 1 = .ok (.ifCond .lt 14, 3) := by decide +kernel
theorem dX7_end_4 : decode cX7_end 4 = .ok (.iload_n 1, 1) := by decide +kernel
theorem dX7_end_5 : decode cX7_end 5 = .ok (.aload_n 0, 1) := by decide +kernel
theorem dX7_end_6 : decode cX7_end 6 = .ok (.getfield 67, 3) := by decide +kernel
theorem dX7_end_9 : decode cX7_end 9 = .ok (.getfield 299, 3) := by decide +kernel
theorem dX7_end_12 : decode cX7_end 12 = .ok (.if_icmp .le 5, 3) := by decide +kernel
theorem dX7_end_15 : decode cX7_end 15 = .ok (.iconst 0, 1) := by decide +kernel
theorem dX7_end_16 : decode cX7_end 16 = .ok (.ireturn, 1) := by decide +kernel
theorem dX7_end_17 : decode cX7_end 17 = .ok (.aload_n 0, 1) := by decide +kernel
theorem dX7_end_18 : decode cX7_end 18 = .ok (.getfield 67, 3) := by decide +kernel
theorem dX7_end_21 : decode cX7_end 21 = .ok (.iload_n 1, 1) := by decide +kernel
theorem dX7_end_22 : decode cX7_end 22 = .ok (.putfield 299, 3) := by decide +kernel
theorem dX7_end_25 : decode cX7_end 25 = .ok (.iconst 1, 1) := by decide +kernel
theorem dX7_end_26 : decode cX7_end 26 = .ok (.ireturn, 1) := by decide +kernel
set_option maxHeartbeats 4000000 in
set_option maxRecDepth 100000 in
theorem t_X7_end {l : Launch} {g : zG} {d : Nat} {s : zS} (hR : zRok s) {p0 : Int32} {K : Bool → zS → Prop} (h : (if p0 < 0 then K false s else (if p0 ≤ (s.1 75 1) then K true (zI s 75 1 p0) else K false s))) : zc l g d M_X7_end [.ref 64, .int p0] s (zKz K) := by
  refine zCall_of k_X7_end (Nat.le_of_ble_eq_true rfl) (Nat.le_refl _) (fun _ => ?_)
  show zt l g d M_X7_end 0 [.ref 64, .int p0] [] s (zKz K)
  refine z_iload_n (i := 1) dX7_end_0 rfl rfl rfl ?_
  refine z_if_lt (pt := 15) dX7_end_1 (by decide) rfl (fun c => ?_) (fun c => ?_)
  · have h := zit h c
    refine z_iconst (v := (0 : Int32)) dX7_end_15 (by decide) rfl ?_
    exact z_ret (some (.int (zb false))) (Or.inr (Or.inl ⟨_, _, rfl, rfl, zb_nar _, dX7_end_16⟩)) zN200 ⟨_, rfl, h⟩
  · have h := zif h c
    refine z_iload_n (i := 1) dX7_end_4 rfl rfl rfl ?_
    refine z_aload_n (i := 0) dX7_end_5 rfl rfl rfl ?_
    refine z_getR (q := 75) f_X7_67 i_64 rfl (r_64_14 hR) (by decide) dX7_end_6 rfl ?_
    refine z_getI (x := s.1 75 1) rfl f_X7_299 i_75 rfl dX7_end_9 rfl ?_
    refine z_icmp_le (pt := 17) dX7_end_12 (by decide) rfl (fun c => ?_) (fun c => ?_)
    · have h := zit h c
      refine z_aload_n (i := 0) dX7_end_17 rfl rfl rfl ?_
      refine z_getR (q := 75) f_X7_67 i_64 rfl (r_64_14 hR) (by decide) dX7_end_18 rfl ?_
      refine z_iload_n (i := 1) dX7_end_21 rfl rfl rfl ?_
      refine z_putI f_X7_299 i_75 rfl (Or.inl rfl) rfl rfl dX7_end_22 rfl ?_
      refine z_iconst (v := (1 : Int32)) dX7_end_25 (by decide) rfl ?_
      exact z_ret (some (.int (zb true))) (Or.inr (Or.inl ⟨_, _, rfl, rfl, zb_nar _, dX7_end_26⟩)) zN200 ⟨_, rfl, h⟩
    · have h := zif h c
      refine z_iconst (v := (0 : Int32)) dX7_end_15 (by decide) rfl ?_
      exact z_ret (some (.int (zb false))) (Or.inr (Or.inl ⟨_, _, rfl, rfl, zb_nar _, dX7_end_16⟩)) zN200 ⟨_, rfl, h⟩
theorem dX7_fault_0 : decode cX7_fault 0 = .ok (.aload_n 0, 1) := by decide +kernel
theorem dX7_fault_1 : decode cX7_fault 1 = .ok (.getfield 67, 3) := by decide +kernel
theorem dX7_fault_4 : decode cX7_fault 4 = .ok (.aload_n 0, 1) := by decide +kernel
theorem dX7_fault_5 : decode cX7_fault 5 = .ok (.getfield 78, 3) := by decide +kernel
theorem dX7_fault_8 : decode cX7_fault 8 = .ok (.invokevirtual 306, 3) := by decide +kernel
theorem dX7_fault_11 : decode cX7_fault 11 = .ok (.ireturn, 1) := by decide +kernel
set_option maxHeartbeats 4000000 in
set_option maxRecDepth 100000 in
theorem t_X7_fault {l : Launch} {g : zG} {d : Nat} {s : zS} (hR : zRok s)  {rp : Nat} (hrp : s.2.2.1 64 16 = rp) (hrq : rp = 79 ∨ rp = 85) {K : Int32 → zS → Prop} (h : (zc l g d M_X2_judge [.ref 75, .ref rp] s (zKi (fun r2 s1 => s1.2.2.1 = s.2.2.1 ∧ K r2 s1)))) : zc l g (d + 1) M_X7_fault [.ref 64] s (zKi K) := by
  refine zCall_of k_X7_fault (Nat.le_of_ble_eq_true rfl) (Nat.le_refl _) (fun _ => ?_)
  show zt l g (d + 1) M_X7_fault 0 [.ref 64] [] s (zKi K)
  refine z_aload_n (i := 0) dX7_fault_0 rfl rfl rfl ?_
  refine z_getR (q := 75) f_X7_67 i_64 rfl (r_64_14 hR) (by decide) dX7_fault_1 rfl ?_
  refine z_aload_n (i := 0) dX7_fault_4 rfl rfl rfl ?_
  refine z_getR (q := rp) f_X7_78 i_64 rfl (hrp) (by omega) dX7_fault_5 rfl ?_
  refine z_callV k_X2_judge m_X7_306 (zRec_of i_75) rfl h rfl (Nat.le_of_ble_eq_true rfl) dX7_fault_8 zy200 rfl ?_
  rintro v s1 ⟨r2, rfl, hRs1, h⟩
  show zt l g (d + 1) M_X7_fault 11 [.ref 64] [.int r2] s1 _
  exact z_ret (some (.int r2)) (Or.inr (Or.inl ⟨_, _, rfl, rfl, rfl, dX7_fault_11⟩)) zN200 ⟨_, rfl, h⟩
theorem dX7_rules_0 : decode cX7_rules 0 = .ok (.aload_n 0, 1) := by decide +kernel
theorem dX7_rules_1 : decode cX7_rules 1 = .ok (.getfield 67, 3) := by decide +kernel
theorem dX7_rules_4 : decode cX7_rules 4 = .ok (.aload_n 0, 1) := by decide +kernel
theorem dX7_rules_5 : decode cX7_rules 5 = .ok (.getfield 78, 3) := by decide +kernel
theorem dX7_rules_8 : decode cX7_rules 8 = .ok (.invokevirtual 306, 3) := by decide +kernel
theorem dX7_rules_11 : decode cX7_rules 11 = .ok (.iconst (-1), 1) := by decide +kernel
theorem dX7_rules_12 : decode cX7_rules 12 = .ok (.if_icmp .eq 5, 3) := by decide +kernel
theorem dX7_rules_15 : decode cX7_rules 15 = .ok (.iconst (-1), 1) := by decide +kernel
theorem dX7_rules_16 : decode cX7_rules 16 = .ok (.ireturn, 1) := by decide +kernel
theorem dX7_rules_17 : decode cX7_rules 17 = .ok (.aload_n 0, 1) := by decide +kernel
theorem dX7_rules_18 : decode cX7_rules 18 = .ok (.getfield 74, 3) := by decide +kernel
theorem dX7_rules_21 : decode cX7_rules 21 = .ok (.astore_n 1, 1) := by decide +kernel
theorem dX7_rules_22 : decode cX7_rules 22 = .ok (.aload_n 0, 1) := by decide +kernel
theorem dX7_rules_23 : decode cX7_rules 23 = .ok (.aload_n 0, 1) := by decide +kernel
theorem dX7_rules_24 : decode cX7_rules 24 = .ok (.getfield 78, 3) := by decide +kernel
theorem dX7_rules_27 : decode cX7_rules 27 = .ok (.putfield 74, 3) := by decide +kernel
theorem dX7_rules_30 : decode cX7_rules 30 = .ok (.aload_n 0, 1) := by decide +kernel
theorem dX7_rules_31 : decode cX7_rules 31 = .ok (.aload_n 1, 1) := by decide +kernel
theorem dX7_rules_32 : decode cX7_rules 32 = .ok (.putfield 78, 3) := by decide +kernel
theorem dX7_rules_35 : decode cX7_rules 35 = .ok (.aload_n 0, 1) := by decide +kernel
theorem dX7_rules_36 : decode cX7_rules 36 = .ok (.getfield 67, 3) := by decide +kernel
theorem dX7_rules_39 : decode cX7_rules 39 = .ok (.iconst 0, 1) := by decide +kernel
theorem dX7_rules_40 : decode cX7_rules 40 = .ok (.putfield 299, 3) := by decide +kernel
theorem dX7_rules_43 : decode cX7_rules 43 = .ok (.aload_n 0, 1) := by decide +kernel
theorem dX7_rules_44 : decode cX7_rules 44 = .ok (.getfield 74, 3) := by decide +kernel
theorem dX7_rules_47 : decode cX7_rules 47 = .ok (.getfield 310, 3) := by decide +kernel
theorem dX7_rules_50 : decode cX7_rules 50 = .ok (.ireturn, 1) := by decide +kernel
theorem dX7_office_0 : decode cX7_office 0 = .ok (.aload_n 0, 1) := by decide +kernel
theorem dX7_office_1 : decode cX7_office 1 = .ok (.iload_n 1, 1) := by decide +kernel
theorem dX7_office_2 : decode cX7_office 2 = .ok (.invokevirtual 236, 3) := by decide +kernel
theorem dX7_office_5 : decode cX7_office 5 = .ok (.ifCond .eq 28, 3) := by decide +kernel
theorem dX7_office_8 : decode cX7_office 8 = .ok (.iload_n 2, 1) := by decide +kernel
theorem dX7_office_9 : decode cX7_office 9 = .ok (.invokestatic 313, 3) := by decide +kernel
theorem dX7_office_12 : decode cX7_office 12 = .ok (.ifCond .eq 21, 3) := by decide +kernel
theorem dX7_office_15 : decode cX7_office 15 = .ok (.iload_n 3, 1) := by decide +kernel
theorem dX7_office_16 : decode cX7_office 16 = .ok (.invokestatic 313, 3) := by decide +kernel
theorem dX7_office_19 : decode cX7_office 19 = .ok (.ifCond .eq 14, 3) := by decide +kernel
theorem dX7_office_22 : decode cX7_office 22 = .ok (.iload 4, 2) := by decide +kernel
theorem dX7_office_24 : decode cX7_office 24 = .ok (.ifCond .lt 9, 3) := by decide +kernel
theorem dX7_office_27 : decode cX7_office 27 = .ok (.iload 4, 2) := by decide +kernel
theorem dX7_office_29 : decode cX7_office 29 = .ok (.iconst 2, 1) := by decide +kernel
theorem dX7_office_30 : decode cX7_office 30 = .ok (.if_icmp .le 5, 3) := by decide +kernel
theorem dX7_office_33 : decode cX7_office 33 = .ok (.iconst (-1), 1) := by decide +kernel
theorem dX7_office_34 : decode cX7_office 34 = .ok (.ireturn, 1) := by decide +kernel
theorem dX7_office_35 : decode cX7_office 35 = .ok (.aload_n 0, 1) := by decide +kernel
theorem dX7_office_36 : decode cX7_office 36 = .ok (.getfield 37, 3) := by decide +kernel
theorem dX7_office_39 : decode cX7_office 39 = .ok (.iload_n 1, 1) := by decide +kernel
theorem dX7_office_40 : decode cX7_office 40 = .ok (.aaload, 1) := by decide +kernel
theorem dX7_office_41 : decode cX7_office 41 = .ok (.astore 5, 2) := by decide +kernel
theorem dX7_office_43 : decode cX7_office 43 = .ok (.aload_n 0, 1) := by decide +kernel
theorem dX7_office_44 : decode cX7_office 44 = .ok (.aload 5, 2) := by decide +kernel
theorem dX7_office_46 : decode cX7_office 46 = .ok (.getfield 224, 3) := by decide +kernel
theorem dX7_office_49 : decode cX7_office 49 = .ok (.aload 5, 2) := by decide +kernel
theorem dX7_office_51 : decode cX7_office 51 = .ok (.getfield 227, 3) := by decide +kernel
theorem dX7_office_54 : decode cX7_office 54 = .ok (.iload_n 2, 1) := by decide +kernel
theorem dX7_office_55 : decode cX7_office 55 = .ok (.iload_n 3, 1) := by decide +kernel
theorem dX7_office_56 : decode cX7_office 56 = .ok (.invokevirtual 316, 3) := by decide +kernel
theorem dX7_office_59 : decode cX7_office 59 = .ok (.aload_n 0, 1) := by decide +kernel
theorem dX7_office_60 : decode cX7_office 60 = .ok (.getfield 81, 3) := by decide +kernel
theorem dX7_office_63 : decode cX7_office 63 = .ok (.iconst 4, 1) := by decide +kernel
theorem dX7_office_64 : decode cX7_office 64 = .ok (.aload 5, 2) := by decide +kernel
theorem dX7_office_66 : decode cX7_office 66 = .ok (.getfield 206, 3) := by decide +kernel
theorem dX7_office_69 : decode cX7_office 69 = .ok (.iastore, 1) := by decide +kernel
theorem dX7_office_70 : decode cX7_office 70 = .ok (.aload_n 0, 1) := by decide +kernel
theorem dX7_office_71 : decode cX7_office 71 = .ok (.getfield 81, 3) := by decide +kernel
theorem dX7_office_74 : decode cX7_office 74 = .ok (.iconst 5, 1) := by decide +kernel
theorem dX7_office_75 : decode cX7_office 75 = .ok (.aload 5, 2) := by decide +kernel
theorem dX7_office_77 : decode cX7_office 77 = .ok (.getfield 212, 3) := by decide +kernel
theorem dX7_office_80 : decode cX7_office 80 = .ok (.iastore, 1) := by decide +kernel
theorem dX7_office_81 : decode cX7_office 81 = .ok (.aload_n 0, 1) := by decide +kernel
theorem dX7_office_82 : decode cX7_office 82 = .ok (.getfield 81, 3) := by decide +kernel
theorem dX7_office_85 : decode cX7_office 85 = .ok (.bipush 6, 2) := by decide +kernel
theorem dX7_office_87 : decode cX7_office 87 = .ok (.aload 5, 2) := by decide +kernel
theorem dX7_office_89 : decode cX7_office 89 = .ok (.getfield 215, 3) := by decide +kernel
theorem dX7_office_92 : decode cX7_office 92 = .ok (.iastore, 1) := by decide +kernel
theorem dX7_office_93 : decode cX7_office 93 = .ok (.aload_n 0, 1) := by decide +kernel
theorem dX7_office_94 : decode cX7_office 94 = .ok (.getfield 74, 3) := by decide +kernel
theorem dX7_office_97 : decode cX7_office 97 = .ok (.aload_n 0, 1) := by decide +kernel
theorem dX7_office_98 : decode cX7_office 98 = .ok (.getfield 81, 3) := by decide +kernel
theorem dX7_office_101 : decode cX7_office 101 = .ok (.invokevirtual 320, 3) := by decide +kernel
theorem dX7_office_104 : decode cX7_office 104 = .ok (.istore 6, 2) := by decide +kernel
theorem dX7_office_106 : decode cX7_office 106 = .ok (.iload 4, 2) := by decide +kernel
theorem dX7_office_108 : decode cX7_office 108 = .ok (.iconst 1, 1) := by decide +kernel
theorem dX7_office_109 : decode cX7_office 109 = .ok (.if_icmp .ne 6, 3) := by decide +kernel
theorem dX7_office_112 : decode cX7_office 112 = .ok (.iload 6, 2) := by decide +kernel
theorem dX7_office_114 : decode cX7_office 114 = .ok (.ireturn, 1) := by decide +kernel
theorem dX7_office_115 : decode cX7_office 115 = .ok (.iload 6, 2) := by decide +kernel
theorem dX7_office_117 : decode cX7_office 117 = .ok (.iconst (-1), 1) := by decide +kernel
theorem dX7_office_118 : decode cX7_office 118 = .ok (.if_icmp .ne 7, 3) := by decide +kernel
theorem dX7_office_121 : decode cX7_office 121 = .ok (.iconst 0, 1) := by decide +kernel
theorem dX7_office_122 : decode cX7_office 122 = .ok (.goto 13, 3) := by decide +kernel
theorem dX7_office_125 : decode cX7_office 125 = .ok (.aload_n 0, 1) := by decide +kernel
theorem dX7_office_126 : decode cX7_office 126 = .ok (.getfield 74, 3) := by decide +kernel
theorem dX7_office_129 : decode cX7_office 129 = .ok (.getfield 324, 3) := by decide +kernel
theorem dX7_office_132 : decode cX7_office 132 = .ok (.iload 6, 2) := by decide +kernel
theorem dX7_office_134 : decode cX7_office 134 = .ok (.iaload, 1) := by decide +kernel
theorem dX7_office_135 : decode cX7_office 135 = .ok (.istore 7, 2) := by decide +kernel
theorem dX7_office_137 : decode cX7_office 137 = .ok (.iload 4, 2) := by decide +kernel
theorem dX7_office_139 : decode cX7_office 139 = .ok (.ifCond .ne 6, 3) := by decide +kernel
theorem dX7_office_142 : decode cX7_office 142 = .ok (.iload 7, 2) := by decide +kernel
theorem dX7_office_144 : decode cX7_office 144 = .ok (.ireturn, 1) := by decide +kernel
theorem dX7_office_145 : decode cX7_office 145 = .ok (.aload_n 0, 1) := by decide +kernel
theorem dX7_office_146 : decode cX7_office 146 = .ok (.aload 5, 2) := by decide +kernel
theorem dX7_office_148 : decode cX7_office 148 = .ok (.iload 7, 2) := by decide +kernel
theorem dX7_office_150 : decode cX7_office 150 = .ok (.invokevirtual 327, 3) := by decide +kernel
theorem dX7_office_153 : decode cX7_office 153 = .ok (.ifCond .eq 7, 3) := by decide +kernel
theorem dX7_office_156 : decode cX7_office 156 = .ok (.iconst 1, 1) := by decide +kernel
theorem dX7_office_157 : decode cX7_office 157 = .ok (.goto 4, 3) := by decide +kernel
theorem dX7_office_160 : decode cX7_office 160 = .ok (.iconst 0, 1) := by decide +kernel
theorem dX7_office_161 : decode cX7_office 161 = .ok (.ireturn, 1) := by decide +kernel
set_option maxHeartbeats 4000000 in
set_option maxRecDepth 100000 in
theorem t_X7_office {l : Launch} {g : zG} {d : Nat} {s : zS} (hR : zRok s) {p0 : Int32} {p1 : Int32} {p2 : Int32} {p3 : Int32} {rn : Nat} (hrn : s.2.2.1 64 15 = rn) (hrb : rn = 79 ∨ rn = 85) {K : Int32 → zS → Prop} (h : (zc l g d M_X7_isTelling [.ref 64, .int p0] s (zKz (fun b2 s1 => s1.2.2.1 = s.2.2.1 ∧ (if b2 = true then (zc l g d M_X7_isLater [.int p1] s1 (zKz (fun b4 s3 => s3.2.2.1 = s1.2.2.1 ∧ (if b4 = true then (zc l g d M_X7_isLater [.int p2] s3 (zKz (fun b6 s5 => s5.2.2.1 = s3.2.2.1 ∧ (if b6 = true then (if p3 < 0 then K (-1 : Int32) s5 else (if p3 ≤ (2 : Int32) then (vp_in p0 60 ∧ (zc l g d M_X7_setValues [.ref 64, .int (s5.1 (104 + p0.toNatClampNeg) 7), .int (s5.1 (104 + p0.toNatClampNeg) 8), .int p1, .int p2] s5 (zKv (fun s8 => s8.2.2.1 = s5.2.2.1 ∧ (zc l g d M_X3_firstHolding [.ref rn, .ref 91] (zI (zI (zI s8 91 4 (s8.1 (104 + p0.toNatClampNeg) 1)) 91 5 (s8.1 (104 + p0.toNatClampNeg) 3)) 91 6 (s8.1 (104 + p0.toNatClampNeg) 4)) (zKi (fun r10 s9 => s9.2.2.1 = s8.2.2.1 ∧ (if p3 = (1 : Int32) then K r10 s9 else (if r10 = (-1 : Int32) then (if p3 = 0 then K (0 : Int32) s9 else (zc l g d M_X7_isHasty [.ref 64, .ref (104 + p0.toNatClampNeg), .int (0 : Int32)] s9 (zKz (fun b16 s15 => s15.2.2.1 = s9.2.2.1 ∧ (if b16 = true then K (1 : Int32) s15 else K (0 : Int32) s15))))) else (vp_in r10 12 ∧ (∀ v12 : Int32, v12 = s9.1 (rn + 2) r10.toNatClampNeg → (if p3 = 0 then K v12 s9 else (zc l g d M_X7_isHasty [.ref 64, .ref (104 + p0.toNatClampNeg), .int v12] s9 (zKz (fun b14 s13 => s13.2.2.1 = s9.2.2.1 ∧ (if b14 = true then K (1 : Int32) s13 else K (0 : Int32) s13)))))))))))))))) else K (-1 : Int32) s5)) else K (-1 : Int32) s5)))) else K (-1 : Int32) s3)))) else K (-1 : Int32) s1))))) : zc l g (d + 1) M_X7_office [.ref 64, .int p0, .int p1, .int p2, .int p3] s (zKi K) := by
  refine zCall_of k_X7_office (Nat.le_of_ble_eq_true rfl) (Nat.le_refl _) (fun _ => ?_)
  show zt l g (d + 1) M_X7_office 0 [.ref 64, .int p0, .int p1, .int p2, .int p3, zJ, zJ, zJ] [] s (zKi K)
  refine z_aload_n (i := 0) dX7_office_0 rfl rfl rfl ?_
  refine z_iload_n (i := 1) dX7_office_1 rfl rfl rfl ?_
  refine z_callV k_X7_isTelling m_X7_236 (zRec_of i_64) rfl h rfl (Nat.le_of_ble_eq_true rfl) dX7_office_2 zy200 rfl ?_
  rintro v s1 ⟨b2, rfl, hRs1, h⟩
  show zt l g (d + 1) M_X7_office 5 [.ref 64, .int p0, .int p1, .int p2, .int p3, zJ, zJ, zJ] [.int (zb b2)] s1 _
  refine z_ifb_eq (pt := 33) dX7_office_5 (by decide) rfl (fun c => ?_) (fun c => ?_)
  · have h := zif h (by rw [c]; exact Bool.false_ne_true)
    refine z_iconst (v := (-1 : Int32)) dX7_office_33 (by decide) rfl ?_
    exact z_ret (some (.int (-1 : Int32))) (Or.inr (Or.inl ⟨_, _, rfl, rfl, rfl, dX7_office_34⟩)) zN200 ⟨_, rfl, h⟩
  · have h := zit h c
    refine z_iload_n (i := 2) dX7_office_8 rfl rfl rfl ?_
    refine z_callS (as := [.int p1]) k_X7_isLater m_X7_313 rfl h rfl (Nat.le_of_ble_eq_true rfl) dX7_office_9 zy200 rfl ?_
    rintro v s3 ⟨b4, rfl, hRs3, h⟩
    show zt l g (d + 1) M_X7_office 12 [.ref 64, .int p0, .int p1, .int p2, .int p3, zJ, zJ, zJ] [.int (zb b4)] s3 _
    refine z_ifb_eq (pt := 33) dX7_office_12 (by decide) rfl (fun c => ?_) (fun c => ?_)
    · have h := zif h (by rw [c]; exact Bool.false_ne_true)
      refine z_iconst (v := (-1 : Int32)) dX7_office_33 (by decide) rfl ?_
      exact z_ret (some (.int (-1 : Int32))) (Or.inr (Or.inl ⟨_, _, rfl, rfl, rfl, dX7_office_34⟩)) zN200 ⟨_, rfl, h⟩
    · have h := zit h c
      refine z_iload_n (i := 3) dX7_office_15 rfl rfl rfl ?_
      refine z_callS (as := [.int p2]) k_X7_isLater m_X7_313 rfl h rfl (Nat.le_of_ble_eq_true rfl) dX7_office_16 zy200 rfl ?_
      rintro v s5 ⟨b6, rfl, hRs5, h⟩
      show zt l g (d + 1) M_X7_office 19 [.ref 64, .int p0, .int p1, .int p2, .int p3, zJ, zJ, zJ] [.int (zb b6)] s5 _
      refine z_ifb_eq (pt := 33) dX7_office_19 (by decide) rfl (fun c => ?_) (fun c => ?_)
      · have h := zif h (by rw [c]; exact Bool.false_ne_true)
        refine z_iconst (v := (-1 : Int32)) dX7_office_33 (by decide) rfl ?_
        exact z_ret (some (.int (-1 : Int32))) (Or.inr (Or.inl ⟨_, _, rfl, rfl, rfl, dX7_office_34⟩)) zN200 ⟨_, rfl, h⟩
      · have h := zit h c
        refine z_iload dX7_office_22 rfl rfl ?_
        refine z_if_lt (pt := 33) dX7_office_24 (by decide) rfl (fun c => ?_) (fun c => ?_)
        · have h := zit h c
          refine z_iconst (v := (-1 : Int32)) dX7_office_33 (by decide) rfl ?_
          exact z_ret (some (.int (-1 : Int32))) (Or.inr (Or.inl ⟨_, _, rfl, rfl, rfl, dX7_office_34⟩)) zN200 ⟨_, rfl, h⟩
        · have h := zif h c
          refine z_iload dX7_office_27 rfl rfl ?_
          refine z_iconst (v := (2 : Int32)) dX7_office_29 (by decide) rfl ?_
          refine z_icmp_le (pt := 35) dX7_office_30 (by decide) rfl (fun c => ?_) (fun c => ?_)
          · have h := zit h c
            refine z_aload_n (i := 0) dX7_office_35 rfl rfl rfl ?_
            refine z_getR (q := 71) f_X7_37 i_64 rfl (r_64_6 (zRok_of hRs5 (zRok_of hRs3 (zRok_of hRs1 hR)))) (by decide) dX7_office_36 rfl ?_
            refine z_iload_n (i := 1) dX7_office_39 rfl rfl rfl ?_
            obtain ⟨a7, h⟩ := h
            have wa7 := vin a7
            refine z_aald (q := 104 + p0.toNatClampNeg) (by decide) a_71 a7 (r_71 (zRok_of hRs5 (zRok_of hRs3 (zRok_of hRs1 hR))) a7) (by omega) dX7_office_40 rfl ?_
            refine z_astore dX7_office_41 (by decide) (zokd rfl) rfl ?_
            show zt l g (d + 1) M_X7_office 43 [.ref 64, .int p0, .int p1, .int p2, .int p3, .ref (104 + p0.toNatClampNeg), zJ, zJ] [] s5 _
            refine z_aload_n (i := 0) dX7_office_43 rfl rfl rfl ?_
            refine z_aload dX7_office_44 rfl rfl ?_
            refine z_getI (x := s5.1 (104 + p0.toNatClampNeg) 7) rfl f_X7_224 (i_Te (p_71 a7)) rfl dX7_office_46 rfl ?_
            refine z_aload dX7_office_49 rfl rfl ?_
            refine z_getI (x := s5.1 (104 + p0.toNatClampNeg) 8) rfl f_X7_227 (i_Te (p_71 a7)) rfl dX7_office_51 rfl ?_
            refine z_iload_n (i := 2) dX7_office_54 rfl rfl rfl ?_
            refine z_iload_n (i := 3) dX7_office_55 rfl rfl rfl ?_
            refine z_callV k_X7_setValues m_X7_316 (zRec_of i_64) rfl h rfl (Nat.le_of_ble_eq_true rfl) dX7_office_56 zy200 rfl ?_
            rintro v s8 ⟨rfl, hRs8, h⟩
            show zt l g (d + 1) M_X7_office 59 [.ref 64, .int p0, .int p1, .int p2, .int p3, .ref (104 + p0.toNatClampNeg), zJ, zJ] [] s8 _
            refine z_aload_n (i := 0) dX7_office_59 rfl rfl rfl ?_
            refine z_getR (q := 91) f_X7_81 i_64 rfl (r_64_17 (zRok_of hRs8 (zRok_of hRs5 (zRok_of hRs3 (zRok_of hRs1 hR))))) (by decide) dX7_office_60 rfl ?_
            refine z_iconst (v := (4 : Int32)) dX7_office_63 (by decide) rfl ?_
            refine z_aload dX7_office_64 rfl rfl ?_
            refine z_getI (x := s8.1 (104 + p0.toNatClampNeg) 1) rfl f_X7_206 (i_Te (p_71 a7)) rfl dX7_office_66 rfl ?_
            refine z_iast a_91 (by unfold vp_in; decide) dX7_office_69 rfl ?_
            show zt l g (d + 1) M_X7_office 70 [.ref 64, .int p0, .int p1, .int p2, .int p3, .ref (104 + p0.toNatClampNeg), zJ, zJ] [] (zI s8 91 4 (s8.1 (104 + p0.toNatClampNeg) 1)) _
            refine z_aload_n (i := 0) dX7_office_70 rfl rfl rfl ?_
            refine z_getR (q := 91) f_X7_81 i_64 rfl (r_64_17 (zRok_of hRs8 (zRok_of hRs5 (zRok_of hRs3 (zRok_of hRs1 hR))))) (by decide) dX7_office_71 rfl ?_
            refine z_iconst (v := (5 : Int32)) dX7_office_74 (by decide) rfl ?_
            refine z_aload dX7_office_75 rfl rfl ?_
            refine z_getI (x := s8.1 (104 + p0.toNatClampNeg) 3) (zI_k (by decide)) f_X7_212 (i_Te (p_71 a7)) rfl dX7_office_77 rfl ?_
            refine z_iast a_91 (by unfold vp_in; decide) dX7_office_80 rfl ?_
            show zt l g (d + 1) M_X7_office 81 [.ref 64, .int p0, .int p1, .int p2, .int p3, .ref (104 + p0.toNatClampNeg), zJ, zJ] [] (zI (zI s8 91 4 (s8.1 (104 + p0.toNatClampNeg) 1)) 91 5 (s8.1 (104 + p0.toNatClampNeg) 3)) _
            refine z_aload_n (i := 0) dX7_office_81 rfl rfl rfl ?_
            refine z_getR (q := 91) f_X7_81 i_64 rfl (r_64_17 (zRok_of hRs8 (zRok_of hRs5 (zRok_of hRs3 (zRok_of hRs1 hR))))) (by decide) dX7_office_82 rfl ?_
            refine z_bipush (v := (6 : Int32)) dX7_office_85 (by decide) rfl ?_
            refine z_aload dX7_office_87 rfl rfl ?_
            refine z_getI (x := s8.1 (104 + p0.toNatClampNeg) 4) ((zI_k (by decide)).trans (zI_o (by omega))) f_X7_215 (i_Te (p_71 a7)) rfl dX7_office_89 rfl ?_
            refine z_iast a_91 (by unfold vp_in; decide) dX7_office_92 rfl ?_
            show zt l g (d + 1) M_X7_office 93 [.ref 64, .int p0, .int p1, .int p2, .int p3, .ref (104 + p0.toNatClampNeg), zJ, zJ] [] (zI (zI (zI s8 91 4 (s8.1 (104 + p0.toNatClampNeg) 1)) 91 5 (s8.1 (104 + p0.toNatClampNeg) 3)) 91 6 (s8.1 (104 + p0.toNatClampNeg) 4)) _
            refine z_aload_n (i := 0) dX7_office_93 rfl rfl rfl ?_
            refine z_getR (q := rn) f_X7_74 i_64 rfl ((congrArg (fun f => f 64 15) hRs8).trans ((congrArg (fun f => f 64 15) hRs5).trans ((congrArg (fun f => f 64 15) hRs3).trans ((congrArg (fun f => f 64 15) hRs1).trans (hrn))))) (by omega) dX7_office_94 rfl ?_
            refine z_aload_n (i := 0) dX7_office_97 rfl rfl rfl ?_
            refine z_getR (q := 91) f_X7_81 i_64 rfl (r_64_17 (zRok_of hRs8 (zRok_of hRs5 (zRok_of hRs3 (zRok_of hRs1 hR))))) (by decide) dX7_office_98 rfl ?_
            refine z_callV k_X3_firstHolding m_X7_320 (zRec_of (i_Ru hrb)) rfl h rfl (Nat.le_of_ble_eq_true rfl) dX7_office_101 zy200 rfl ?_
            rintro v s9 ⟨r10, rfl, hRs9, h⟩
            show zt l g (d + 1) M_X7_office 104 [.ref 64, .int p0, .int p1, .int p2, .int p3, .ref (104 + p0.toNatClampNeg), zJ, zJ] [.int r10] s9 _
            refine z_istore dX7_office_104 (by decide) (zokd rfl) rfl ?_
            show zt l g (d + 1) M_X7_office 106 [.ref 64, .int p0, .int p1, .int p2, .int p3, .ref (104 + p0.toNatClampNeg), .int r10, zJ] [] s9 _
            refine z_iload dX7_office_106 rfl rfl ?_
            refine z_iconst (v := (1 : Int32)) dX7_office_108 (by decide) rfl ?_
            refine z_icmp_ne (pt := 115) dX7_office_109 (by decide) rfl (fun c => ?_) (fun c => ?_)
            · have h := zif h c
              refine z_iload dX7_office_115 rfl rfl ?_
              refine z_iconst (v := (-1 : Int32)) dX7_office_117 (by decide) rfl ?_
              refine z_icmp_ne (pt := 125) dX7_office_118 (by decide) rfl (fun c => ?_) (fun c => ?_)
              · have h := zif h c
                refine z_aload_n (i := 0) dX7_office_125 rfl rfl rfl ?_
                refine z_getR (q := rn) f_X7_74 i_64 rfl ((congrArg (fun f => f 64 15) hRs9).trans ((congrArg (fun f => f 64 15) hRs8).trans ((congrArg (fun f => f 64 15) hRs5).trans ((congrArg (fun f => f 64 15) hRs3).trans ((congrArg (fun f => f 64 15) hRs1).trans (hrn)))))) (by omega) dX7_office_126 rfl ?_
                refine z_getR (q := rn + 2) f_X7_324 (i_Ru hrb) rfl (r_Ru2 (zRok_of hRs9 (zRok_of hRs8 (zRok_of hRs5 (zRok_of hRs3 (zRok_of hRs1 hR))))) hrb) (by omega) dX7_office_129 rfl ?_
                refine z_iload dX7_office_132 rfl rfl ?_
                obtain ⟨a11, h⟩ := h
                have wa11 := vin a11
                refine z_iald (x := s9.1 (rn + 2) r10.toNatClampNeg) rfl (a_Ru2 hrb) a11 dX7_office_134 rfl ?_
                refine z_istore dX7_office_135 (by decide) (zokd rfl) rfl ?_
                obtain ⟨v12, ev12⟩ : ∃ x : Int32, x = s9.1 (rn + 2) r10.toNatClampNeg := ⟨_, rfl⟩
                rw [← ev12]
                have h := h v12 ev12
                show zt l g (d + 1) M_X7_office 137 [.ref 64, .int p0, .int p1, .int p2, .int p3, .ref (104 + p0.toNatClampNeg), .int r10, .int v12] [] s9 _
                refine z_iload dX7_office_137 rfl rfl ?_
                refine z_if_ne (pt := 145) dX7_office_139 (by decide) rfl (fun c => ?_) (fun c => ?_)
                · have h := zif h c
                  refine z_aload_n (i := 0) dX7_office_145 rfl rfl rfl ?_
                  refine z_aload dX7_office_146 rfl rfl ?_
                  refine z_iload dX7_office_148 rfl rfl ?_
                  refine z_callV k_X7_isHasty m_X7_327 (zRec_of i_64) rfl h rfl (Nat.le_of_ble_eq_true rfl) dX7_office_150 zy200 rfl ?_
                  rintro v s13 ⟨b14, rfl, hRs13, h⟩
                  show zt l g (d + 1) M_X7_office 153 [.ref 64, .int p0, .int p1, .int p2, .int p3, .ref (104 + p0.toNatClampNeg), .int r10, .int v12] [.int (zb b14)] s13 _
                  refine z_ifb_eq (pt := 160) dX7_office_153 (by decide) rfl (fun c => ?_) (fun c => ?_)
                  · have h := zif h (by rw [c]; exact Bool.false_ne_true)
                    refine z_iconst (v := (0 : Int32)) dX7_office_160 (by decide) rfl ?_
                    exact z_ret (some (.int (0 : Int32))) (Or.inr (Or.inl ⟨_, _, rfl, rfl, rfl, dX7_office_161⟩)) zN200 ⟨_, rfl, h⟩
                  · have h := zit h c
                    refine z_iconst (v := (1 : Int32)) dX7_office_156 (by decide) rfl ?_
                    refine z_goto (pn := 161) dX7_office_157 (by decide) ?_
                    exact z_ret (some (.int (1 : Int32))) (Or.inr (Or.inl ⟨_, _, rfl, rfl, rfl, dX7_office_161⟩)) zN200 ⟨_, rfl, h⟩
                · have h := zit h c
                  refine z_iload dX7_office_142 rfl rfl ?_
                  exact z_ret (some (.int v12)) (Or.inr (Or.inl ⟨_, _, rfl, rfl, rfl, dX7_office_144⟩)) zN200 ⟨_, rfl, h⟩
              · have h := zit h c
                refine z_iconst (v := (0 : Int32)) dX7_office_121 (by decide) rfl ?_
                refine z_goto (pn := 135) dX7_office_122 (by decide) ?_
                refine z_istore dX7_office_135 (by decide) (zokd rfl) rfl ?_
                show zt l g (d + 1) M_X7_office 137 [.ref 64, .int p0, .int p1, .int p2, .int p3, .ref (104 + p0.toNatClampNeg), .int r10, .int (0 : Int32)] [] s9 _
                refine z_iload dX7_office_137 rfl rfl ?_
                refine z_if_ne (pt := 145) dX7_office_139 (by decide) rfl (fun c => ?_) (fun c => ?_)
                · have h := zif h c
                  refine z_aload_n (i := 0) dX7_office_145 rfl rfl rfl ?_
                  refine z_aload dX7_office_146 rfl rfl ?_
                  refine z_iload dX7_office_148 rfl rfl ?_
                  refine z_callV k_X7_isHasty m_X7_327 (zRec_of i_64) rfl h rfl (Nat.le_of_ble_eq_true rfl) dX7_office_150 zy200 rfl ?_
                  rintro v s15 ⟨b16, rfl, hRs15, h⟩
                  show zt l g (d + 1) M_X7_office 153 [.ref 64, .int p0, .int p1, .int p2, .int p3, .ref (104 + p0.toNatClampNeg), .int r10, .int (0 : Int32)] [.int (zb b16)] s15 _
                  refine z_ifb_eq (pt := 160) dX7_office_153 (by decide) rfl (fun c => ?_) (fun c => ?_)
                  · have h := zif h (by rw [c]; exact Bool.false_ne_true)
                    refine z_iconst (v := (0 : Int32)) dX7_office_160 (by decide) rfl ?_
                    exact z_ret (some (.int (0 : Int32))) (Or.inr (Or.inl ⟨_, _, rfl, rfl, rfl, dX7_office_161⟩)) zN200 ⟨_, rfl, h⟩
                  · have h := zit h c
                    refine z_iconst (v := (1 : Int32)) dX7_office_156 (by decide) rfl ?_
                    refine z_goto (pn := 161) dX7_office_157 (by decide) ?_
                    exact z_ret (some (.int (1 : Int32))) (Or.inr (Or.inl ⟨_, _, rfl, rfl, rfl, dX7_office_161⟩)) zN200 ⟨_, rfl, h⟩
                · have h := zit h c
                  refine z_iload dX7_office_142 rfl rfl ?_
                  exact z_ret (some (.int (0 : Int32))) (Or.inr (Or.inl ⟨_, _, rfl, rfl, rfl, dX7_office_144⟩)) zN200 ⟨_, rfl, h⟩
            · have h := zit h c
              refine z_iload dX7_office_112 rfl rfl ?_
              exact z_ret (some (.int r10)) (Or.inr (Or.inl ⟨_, _, rfl, rfl, rfl, dX7_office_114⟩)) zN200 ⟨_, rfl, h⟩
          · have h := zif h c
            refine z_iconst (v := (-1 : Int32)) dX7_office_33 (by decide) rfl ?_
            exact z_ret (some (.int (-1 : Int32))) (Or.inr (Or.inl ⟨_, _, rfl, rfl, rfl, dX7_office_34⟩)) zN200 ⟨_, rfl, h⟩
theorem dX7_grown_0 : decode cX7_grown 0 = .ok (.iload_n 1, 1) := by decide +kernel
theorem dX7_grown_1 : decode cX7_grown 1 = .ok (.invokestatic 286, 3) := by decide +kernel
theorem dX7_grown_4 : decode cX7_grown 4 = .ok (.ifCond .eq 25, 3) := by decide +kernel
theorem dX7_grown_7 : decode cX7_grown 7 = .ok (.iload_n 2, 1) := by decide +kernel
theorem dX7_grown_8 : decode cX7_grown 8 = .ok (.invokestatic 330, 3) := by decide +kernel
theorem dX7_grown_11 : decode cX7_grown 11 = .ok (.ifCond .eq 18, 3) := by decide +kernel
theorem dX7_grown_14 : decode cX7_grown 14 = .ok (.iload_n 3, 1) := by decide +kernel
theorem dX7_grown_15 : decode cX7_grown 15 = .ok (.invokestatic 313, 3) := by decide +kernel
theorem dX7_grown_18 : decode cX7_grown 18 = .ok (.ifCond .eq 11, 3) := by decide +kernel
theorem dX7_grown_21 : decode cX7_grown 21 = .ok (.iload 4, 2) := by decide +kernel
theorem dX7_grown_23 : decode cX7_grown 23 = .ok (.invokestatic 313, 3) := by decide +kernel
theorem dX7_grown_26 : decode cX7_grown 26 = .ok (.ifCond .ne 5, 3) := by decide +kernel
theorem dX7_grown_29 : decode cX7_grown 29 = .ok (.iconst (-1), 1) := by decide +kernel
theorem dX7_grown_30 : decode cX7_grown 30 = .ok (.ireturn, 1) := by decide +kernel
theorem dX7_grown_31 : decode cX7_grown 31 = .ok (.aload_n 0, 1) := by decide +kernel
theorem dX7_grown_32 : decode cX7_grown 32 = .ok (.iload_n 1, 1) := by decide +kernel
theorem dX7_grown_33 : decode cX7_grown 33 = .ok (.iload_n 2, 1) := by decide +kernel
theorem dX7_grown_34 : decode cX7_grown 34 = .ok (.iload_n 3, 1) := by decide +kernel
theorem dX7_grown_35 : decode cX7_grown 35 = .ok (.iload 4, 2) := by decide +kernel
theorem dX7_grown_37 : decode cX7_grown 37 = .ok (.invokevirtual 333, 3) := by decide +kernel
theorem dX7_grown_40 : decode cX7_grown 40 = .ok (.ireturn, 1) := by decide +kernel
set_option maxHeartbeats 4000000 in
set_option maxRecDepth 100000 in
theorem t_X7_grown {l : Launch} {g : zG} {d : Nat} {s : zS} (hR : zRok s) {p0 : Int32} {p1 : Int32} {p2 : Int32} {p3 : Int32} {K : Int32 → zS → Prop} (h : (zc l g d M_X7_isLights [.int p0] s (zKz (fun b2 s1 => s1.2.2.1 = s.2.2.1 ∧ (if b2 = true then (zc l g d M_X7_isHull [.int p1] s1 (zKz (fun b4 s3 => s3.2.2.1 = s1.2.2.1 ∧ (if b4 = true then (zc l g d M_X7_isLater [.int p2] s3 (zKz (fun b6 s5 => s5.2.2.1 = s3.2.2.1 ∧ (if b6 = true then (zc l g d M_X7_isLater [.int p3] s5 (zKz (fun b8 s7 => s7.2.2.1 = s5.2.2.1 ∧ (if b8 = true then (zc l g d M_X7_growth [.ref 64, .int p0, .int p1, .int p2, .int p3] s7 (zKi (fun r10 s9 => s9.2.2.1 = s7.2.2.1 ∧ K r10 s9))) else K (-1 : Int32) s7)))) else K (-1 : Int32) s5)))) else K (-1 : Int32) s3)))) else K (-1 : Int32) s1))))) : zc l g (d + 1) M_X7_grown [.ref 64, .int p0, .int p1, .int p2, .int p3] s (zKi K) := by
  refine zCall_of k_X7_grown (Nat.le_of_ble_eq_true rfl) (Nat.le_refl _) (fun _ => ?_)
  show zt l g (d + 1) M_X7_grown 0 [.ref 64, .int p0, .int p1, .int p2, .int p3] [] s (zKi K)
  refine z_iload_n (i := 1) dX7_grown_0 rfl rfl rfl ?_
  refine z_callS (as := [.int p0]) k_X7_isLights m_X7_286 rfl h rfl (Nat.le_of_ble_eq_true rfl) dX7_grown_1 zy200 rfl ?_
  rintro v s1 ⟨b2, rfl, hRs1, h⟩
  show zt l g (d + 1) M_X7_grown 4 [.ref 64, .int p0, .int p1, .int p2, .int p3] [.int (zb b2)] s1 _
  refine z_ifb_eq (pt := 29) dX7_grown_4 (by decide) rfl (fun c => ?_) (fun c => ?_)
  · have h := zif h (by rw [c]; exact Bool.false_ne_true)
    refine z_iconst (v := (-1 : Int32)) dX7_grown_29 (by decide) rfl ?_
    exact z_ret (some (.int (-1 : Int32))) (Or.inr (Or.inl ⟨_, _, rfl, rfl, rfl, dX7_grown_30⟩)) zN200 ⟨_, rfl, h⟩
  · have h := zit h c
    refine z_iload_n (i := 2) dX7_grown_7 rfl rfl rfl ?_
    refine z_callS (as := [.int p1]) k_X7_isHull m_X7_330 rfl h rfl (Nat.le_of_ble_eq_true rfl) dX7_grown_8 zy200 rfl ?_
    rintro v s3 ⟨b4, rfl, hRs3, h⟩
    show zt l g (d + 1) M_X7_grown 11 [.ref 64, .int p0, .int p1, .int p2, .int p3] [.int (zb b4)] s3 _
    refine z_ifb_eq (pt := 29) dX7_grown_11 (by decide) rfl (fun c => ?_) (fun c => ?_)
    · have h := zif h (by rw [c]; exact Bool.false_ne_true)
      refine z_iconst (v := (-1 : Int32)) dX7_grown_29 (by decide) rfl ?_
      exact z_ret (some (.int (-1 : Int32))) (Or.inr (Or.inl ⟨_, _, rfl, rfl, rfl, dX7_grown_30⟩)) zN200 ⟨_, rfl, h⟩
    · have h := zit h c
      refine z_iload_n (i := 3) dX7_grown_14 rfl rfl rfl ?_
      refine z_callS (as := [.int p2]) k_X7_isLater m_X7_313 rfl h rfl (Nat.le_of_ble_eq_true rfl) dX7_grown_15 zy200 rfl ?_
      rintro v s5 ⟨b6, rfl, hRs5, h⟩
      show zt l g (d + 1) M_X7_grown 18 [.ref 64, .int p0, .int p1, .int p2, .int p3] [.int (zb b6)] s5 _
      refine z_ifb_eq (pt := 29) dX7_grown_18 (by decide) rfl (fun c => ?_) (fun c => ?_)
      · have h := zif h (by rw [c]; exact Bool.false_ne_true)
        refine z_iconst (v := (-1 : Int32)) dX7_grown_29 (by decide) rfl ?_
        exact z_ret (some (.int (-1 : Int32))) (Or.inr (Or.inl ⟨_, _, rfl, rfl, rfl, dX7_grown_30⟩)) zN200 ⟨_, rfl, h⟩
      · have h := zit h c
        refine z_iload dX7_grown_21 rfl rfl ?_
        refine z_callS (as := [.int p3]) k_X7_isLater m_X7_313 rfl h rfl (Nat.le_of_ble_eq_true rfl) dX7_grown_23 zy200 rfl ?_
        rintro v s7 ⟨b8, rfl, hRs7, h⟩
        show zt l g (d + 1) M_X7_grown 26 [.ref 64, .int p0, .int p1, .int p2, .int p3] [.int (zb b8)] s7 _
        refine z_ifb_ne (pt := 31) dX7_grown_26 (by decide) rfl (fun c => ?_) (fun c => ?_)
        · have h := zit h c
          refine z_aload_n (i := 0) dX7_grown_31 rfl rfl rfl ?_
          refine z_iload_n (i := 1) dX7_grown_32 rfl rfl rfl ?_
          refine z_iload_n (i := 2) dX7_grown_33 rfl rfl rfl ?_
          refine z_iload_n (i := 3) dX7_grown_34 rfl rfl rfl ?_
          refine z_iload dX7_grown_35 rfl rfl ?_
          refine z_callV k_X7_growth m_X7_333 (zRec_of i_64) rfl h rfl (Nat.le_of_ble_eq_true rfl) dX7_grown_37 zy200 rfl ?_
          rintro v s9 ⟨r10, rfl, hRs9, h⟩
          show zt l g (d + 1) M_X7_grown 40 [.ref 64, .int p0, .int p1, .int p2, .int p3] [.int r10] s9 _
          exact z_ret (some (.int r10)) (Or.inr (Or.inl ⟨_, _, rfl, rfl, rfl, dX7_grown_40⟩)) zN200 ⟨_, rfl, h⟩
        · have h := zif h (by rw [c]; exact Bool.false_ne_true)
          refine z_iconst (v := (-1 : Int32)) dX7_grown_29 (by decide) rfl ?_
          exact z_ret (some (.int (-1 : Int32))) (Or.inr (Or.inl ⟨_, _, rfl, rfl, rfl, dX7_grown_30⟩)) zN200 ⟨_, rfl, h⟩
theorem dX7_before_0 : decode cX7_before 0 = .ok (.iload_n 1, 1) := by decide +kernel
theorem dX7_before_1 : decode cX7_before 1 = .ok (.iconst 1, 1) := by decide +kernel
theorem dX7_before_2 : decode cX7_before 2 = .ok (.if_icmp .lt 31, 3) := by decide +kernel
theorem dX7_before_5 : decode cX7_before 5 = .ok (.iload_n 1, 1) := by decide +kernel
theorem dX7_before_6 : decode cX7_before 6 = .ok (.bipush 99, 2) := by decide +kernel
theorem dX7_before_8 : decode cX7_before 8 = .ok (.if_icmp .gt 25, 3) := by decide +kernel
theorem dX7_before_11 : decode cX7_before 11 = .ok (.iload_n 2, 1) := by decide +kernel
theorem dX7_before_12 : decode cX7_before 12 = .ok (.invokestatic 330, 3) := by decide +kernel
theorem dX7_before_15 : decode cX7_before 15 = .ok (.ifCond .eq 18, 3) := by decide +kernel
theorem dX7_before_18 : decode cX7_before 18 = .ok (.iload_n 3, 1) := by decide +kernel
theorem dX7_before_19 : decode cX7_before 19 = .ok (.invokestatic 313, 3) := by decide +kernel
theorem dX7_before_22 : decode cX7_before 22 = .ok (.ifCond .eq 11, 3) := by decide +kernel
theorem dX7_before_25 : decode cX7_before 25 = .ok (.iload 4, 2) := by decide +kernel
theorem dX7_before_27 : decode cX7_before 27 = .ok (.invokestatic 313, 3) := by decide +kernel
theorem dX7_before_30 : decode cX7_before 30 = .ok (.ifCond .ne 5, 3) := by decide +kernel
theorem dX7_before_33 : decode cX7_before 33 = .ok (.iconst (-1), 1) := by decide +kernel
theorem dX7_before_34 : decode cX7_before 34 = .ok (.ireturn, 1) := by decide +kernel
theorem dX7_before_35 : decode cX7_before 35 = .ok (.iconst 0, 1) := by decide +kernel
theorem dX7_before_36 : decode cX7_before 36 = .ok (.istore 5, 2) := by decide +kernel
theorem dX7_before_38 : decode cX7_before 38 = .ok (.iconst 1, 1) := by decide +kernel
theorem dX7_before_39 : decode cX7_before 39 = .ok (.istore 6, 2) := by decide +kernel
theorem dX7_before_41 : decode cX7_before 41 = .ok (.iload 6, 2) := by decide +kernel
theorem dX7_before_43 : decode cX7_before 43 = .ok (.bipush 9, 2) := by decide +kernel
theorem dX7_before_45 : decode cX7_before 45 = .ok (.if_icmp .gt 34, 3) := by decide +kernel
theorem dX7_before_48 : decode cX7_before 48 = .ok (.aload_n 0, 1) := by decide +kernel
theorem dX7_before_49 : decode cX7_before 49 = .ok (.iload 6, 2) := by decide +kernel
theorem dX7_before_51 : decode cX7_before 51 = .ok (.iload_n 2, 1) := by decide +kernel
theorem dX7_before_52 : decode cX7_before 52 = .ok (.iload_n 3, 1) := by decide +kernel
theorem dX7_before_53 : decode cX7_before 53 = .ok (.iload 4, 2) := by decide +kernel
theorem dX7_before_55 : decode cX7_before 55 = .ok (.invokevirtual 333, 3) := by decide +kernel
theorem dX7_before_58 : decode cX7_before 58 = .ok (.iload_n 1, 1) := by decide +kernel
theorem dX7_before_59 : decode cX7_before 59 = .ok (.if_icmp .ne 14, 3) := by decide +kernel
theorem dX7_before_62 : decode cX7_before 62 = .ok (.iload 5, 2) := by decide +kernel
theorem dX7_before_64 : decode cX7_before 64 = .ok (.iconst 1, 1) := by decide +kernel
theorem dX7_before_65 : decode cX7_before 65 = .ok (.iload 6, 2) := by decide +kernel
theorem dX7_before_67 : decode cX7_before 67 = .ok (.iconst 1, 1) := by decide +kernel
theorem dX7_before_68 : decode cX7_before 68 = .ok (.isub, 1) := by decide +kernel
theorem dX7_before_69 : decode cX7_before 69 = .ok (.ishl, 1) := by decide +kernel
theorem dX7_before_70 : decode cX7_before 70 = .ok (.ior, 1) := by decide +kernel
theorem dX7_before_71 : decode cX7_before 71 = .ok (.istore 5, 2) := by decide +kernel
theorem dX7_before_73 : decode cX7_before 73 = .ok (.iinc 6 1, 3) := by decide +kernel
theorem dX7_before_76 : decode cX7_before 76 = .ok (.goto (-35), 3) := by decide +kernel
theorem dX7_before_79 : decode cX7_before 79 = .ok (.iload 5, 2) := by decide +kernel
theorem dX7_before_81 : decode cX7_before 81 = .ok (.ireturn, 1) := by decide +kernel
set_option maxHeartbeats 4000000 in
set_option maxRecDepth 100000 in
theorem t_X7_before {l : Launch} {g : zG} {d : Nat} {s : zS} (hR : zRok s) {p0 : Int32} {p1 : Int32} {p2 : Int32} {p3 : Int32} {K : Int32 → zS → Prop} (h : (if p0 < (1 : Int32) then K (-1 : Int32) s else (if (99 : Int32) < p0 then K (-1 : Int32) s else (zc l g d M_X7_isHull [.int p1] s (zKz (fun b2 s1 => s1.2.2.1 = s.2.2.1 ∧ (if b2 = true then (zc l g d M_X7_isLater [.int p2] s1 (zKz (fun b4 s3 => s3.2.2.1 = s1.2.2.1 ∧ (if b4 = true then (zc l g d M_X7_isLater [.int p3] s3 (zKz (fun b6 s5 => s5.2.2.1 = s3.2.2.1 ∧ (if b6 = true then zt l g (d + 1) M_X7_before 41 [.ref 64, .int p0, .int p1, .int p2, .int p3, .int (0 : Int32), .int (1 : Int32)] [] s5 (zKi K) else K (-1 : Int32) s5)))) else K (-1 : Int32) s3)))) else K (-1 : Int32) s1))))))) : zc l g (d + 1) M_X7_before [.ref 64, .int p0, .int p1, .int p2, .int p3] s (zKi K) := by
  refine zCall_of k_X7_before (Nat.le_of_ble_eq_true rfl) (Nat.le_refl _) (fun _ => ?_)
  show zt l g (d + 1) M_X7_before 0 [.ref 64, .int p0, .int p1, .int p2, .int p3, zJ, zJ] [] s (zKi K)
  refine z_iload_n (i := 1) dX7_before_0 rfl rfl rfl ?_
  refine z_iconst (v := (1 : Int32)) dX7_before_1 (by decide) rfl ?_
  refine z_icmp_lt (pt := 33) dX7_before_2 (by decide) rfl (fun c => ?_) (fun c => ?_)
  · have h := zit h c
    refine z_iconst (v := (-1 : Int32)) dX7_before_33 (by decide) rfl ?_
    exact z_ret (some (.int (-1 : Int32))) (Or.inr (Or.inl ⟨_, _, rfl, rfl, rfl, dX7_before_34⟩)) zN200 ⟨_, rfl, h⟩
  · have h := zif h c
    refine z_iload_n (i := 1) dX7_before_5 rfl rfl rfl ?_
    refine z_bipush (v := (99 : Int32)) dX7_before_6 (by decide) rfl ?_
    refine z_icmp_gt (pt := 33) dX7_before_8 (by decide) rfl (fun c => ?_) (fun c => ?_)
    · have h := zit h c
      refine z_iconst (v := (-1 : Int32)) dX7_before_33 (by decide) rfl ?_
      exact z_ret (some (.int (-1 : Int32))) (Or.inr (Or.inl ⟨_, _, rfl, rfl, rfl, dX7_before_34⟩)) zN200 ⟨_, rfl, h⟩
    · have h := zif h c
      refine z_iload_n (i := 2) dX7_before_11 rfl rfl rfl ?_
      refine z_callS (as := [.int p1]) k_X7_isHull m_X7_330 rfl h rfl (Nat.le_of_ble_eq_true rfl) dX7_before_12 zy200 rfl ?_
      rintro v s1 ⟨b2, rfl, hRs1, h⟩
      show zt l g (d + 1) M_X7_before 15 [.ref 64, .int p0, .int p1, .int p2, .int p3, zJ, zJ] [.int (zb b2)] s1 _
      refine z_ifb_eq (pt := 33) dX7_before_15 (by decide) rfl (fun c => ?_) (fun c => ?_)
      · have h := zif h (by rw [c]; exact Bool.false_ne_true)
        refine z_iconst (v := (-1 : Int32)) dX7_before_33 (by decide) rfl ?_
        exact z_ret (some (.int (-1 : Int32))) (Or.inr (Or.inl ⟨_, _, rfl, rfl, rfl, dX7_before_34⟩)) zN200 ⟨_, rfl, h⟩
      · have h := zit h c
        refine z_iload_n (i := 3) dX7_before_18 rfl rfl rfl ?_
        refine z_callS (as := [.int p2]) k_X7_isLater m_X7_313 rfl h rfl (Nat.le_of_ble_eq_true rfl) dX7_before_19 zy200 rfl ?_
        rintro v s3 ⟨b4, rfl, hRs3, h⟩
        show zt l g (d + 1) M_X7_before 22 [.ref 64, .int p0, .int p1, .int p2, .int p3, zJ, zJ] [.int (zb b4)] s3 _
        refine z_ifb_eq (pt := 33) dX7_before_22 (by decide) rfl (fun c => ?_) (fun c => ?_)
        · have h := zif h (by rw [c]; exact Bool.false_ne_true)
          refine z_iconst (v := (-1 : Int32)) dX7_before_33 (by decide) rfl ?_
          exact z_ret (some (.int (-1 : Int32))) (Or.inr (Or.inl ⟨_, _, rfl, rfl, rfl, dX7_before_34⟩)) zN200 ⟨_, rfl, h⟩
        · have h := zit h c
          refine z_iload dX7_before_25 rfl rfl ?_
          refine z_callS (as := [.int p3]) k_X7_isLater m_X7_313 rfl h rfl (Nat.le_of_ble_eq_true rfl) dX7_before_27 zy200 rfl ?_
          rintro v s5 ⟨b6, rfl, hRs5, h⟩
          show zt l g (d + 1) M_X7_before 30 [.ref 64, .int p0, .int p1, .int p2, .int p3, zJ, zJ] [.int (zb b6)] s5 _
          refine z_ifb_ne (pt := 35) dX7_before_30 (by decide) rfl (fun c => ?_) (fun c => ?_)
          · have h := zit h c
            refine z_iconst (v := (0 : Int32)) dX7_before_35 (by decide) rfl ?_
            refine z_istore dX7_before_36 (by decide) (zokd rfl) rfl ?_
            show zt l g (d + 1) M_X7_before 38 [.ref 64, .int p0, .int p1, .int p2, .int p3, .int (0 : Int32), zJ] [] s5 _
            refine z_iconst (v := (1 : Int32)) dX7_before_38 (by decide) rfl ?_
            refine z_istore dX7_before_39 (by decide) (zokd rfl) rfl ?_
            show zt l g (d + 1) M_X7_before 41 [.ref 64, .int p0, .int p1, .int p2, .int p3, .int (0 : Int32), .int (1 : Int32)] [] s5 _
            exact h
          · have h := zif h (by rw [c]; exact Bool.false_ne_true)
            refine z_iconst (v := (-1 : Int32)) dX7_before_33 (by decide) rfl ?_
            exact z_ret (some (.int (-1 : Int32))) (Or.inr (Or.inl ⟨_, _, rfl, rfl, rfl, dX7_before_34⟩)) zN200 ⟨_, rfl, h⟩
set_option maxHeartbeats 4000000 in
set_option maxRecDepth 100000 in
theorem t_X7_before_41 {l : Launch} {g : zG} {d : Nat} {s : zS} (hR : zRok s) {x1 : Int32} {x2 : Int32} {x3 : Int32} {x4 : Int32} {x5 : Int32} {x6 : Int32} {K : Int32 → zS → Prop} (h : (if (9 : Int32) < x6 then K x5 s else (zc l g d M_X7_growth [.ref 64, .int x6, .int x2, .int x3, .int x4] s (zKi (fun r2 s1 => s1.2.2.1 = s.2.2.1 ∧ (if r2 = x1 then (∀ v3 : Int32, v3 = x5 ||| ((1 : Int32) <<< ((x6 - (1 : Int32)) &&& 31)) → zt l g (d + 1) M_X7_before 41 [.ref 64, .int x1, .int x2, .int x3, .int x4, .int v3, .int (x6 + (1 : Int32))] [] s1 (zKi K)) else zt l g (d + 1) M_X7_before 41 [.ref 64, .int x1, .int x2, .int x3, .int x4, .int x5, .int (x6 + (1 : Int32))] [] s1 (zKi K))))))) : zt l g (d + 1) M_X7_before 41 [.ref 64, .int x1, .int x2, .int x3, .int x4, .int x5, .int x6] [] s (zKi K) := by
  refine z_iload dX7_before_41 rfl rfl ?_
  refine z_bipush (v := (9 : Int32)) dX7_before_43 (by decide) rfl ?_
  refine z_icmp_gt (pt := 79) dX7_before_45 (by decide) rfl (fun c => ?_) (fun c => ?_)
  · have h := zit h c
    refine z_iload dX7_before_79 rfl rfl ?_
    exact z_ret (some (.int x5)) (Or.inr (Or.inl ⟨_, _, rfl, rfl, rfl, dX7_before_81⟩)) zN200 ⟨_, rfl, h⟩
  · have h := zif h c
    refine z_aload_n (i := 0) dX7_before_48 rfl rfl rfl ?_
    refine z_iload dX7_before_49 rfl rfl ?_
    refine z_iload_n (i := 2) dX7_before_51 rfl rfl rfl ?_
    refine z_iload_n (i := 3) dX7_before_52 rfl rfl rfl ?_
    refine z_iload dX7_before_53 rfl rfl ?_
    refine z_callV k_X7_growth m_X7_333 (zRec_of i_64) rfl h rfl (Nat.le_of_ble_eq_true rfl) dX7_before_55 zy200 rfl ?_
    rintro v s1 ⟨r2, rfl, hRs1, h⟩
    show zt l g (d + 1) M_X7_before 58 [.ref 64, .int x1, .int x2, .int x3, .int x4, .int x5, .int x6] [.int r2] s1 _
    refine z_iload_n (i := 1) dX7_before_58 rfl rfl rfl ?_
    refine z_icmp_ne (pt := 73) dX7_before_59 (by decide) rfl (fun c => ?_) (fun c => ?_)
    · have h := zif h c
      refine z_iinc (v := x6 + (1 : Int32)) dX7_before_73 rfl rfl (by decide) (zokd rfl) rfl ?_
      show zt l g (d + 1) M_X7_before 76 [.ref 64, .int x1, .int x2, .int x3, .int x4, .int x5, .int (x6 + (1 : Int32))] [] s1 _
      refine z_goto (pn := 41) dX7_before_76 (by decide) ?_
      exact h
    · have h := zit h c
      refine z_iload dX7_before_62 rfl rfl ?_
      refine z_iconst (v := (1 : Int32)) dX7_before_64 (by decide) rfl ?_
      refine z_iload dX7_before_65 rfl rfl ?_
      refine z_iconst (v := (1 : Int32)) dX7_before_67 (by decide) rfl ?_
      refine z_isub dX7_before_68 rfl ?_
      refine z_ishl dX7_before_69 rfl ?_
      refine z_ior dX7_before_70 rfl ?_
      refine z_istore dX7_before_71 (by decide) (zokd rfl) rfl ?_
      obtain ⟨v3, ev3⟩ : ∃ x : Int32, x = x5 ||| ((1 : Int32) <<< ((x6 - (1 : Int32)) &&& 31)) := ⟨_, rfl⟩
      rw [← ev3]
      have h := h v3 ev3
      show zt l g (d + 1) M_X7_before 73 [.ref 64, .int x1, .int x2, .int x3, .int x4, .int v3, .int x6] [] s1 _
      refine z_iinc (v := x6 + (1 : Int32)) dX7_before_73 rfl rfl (by decide) (zokd rfl) rfl ?_
      show zt l g (d + 1) M_X7_before 76 [.ref 64, .int x1, .int x2, .int x3, .int x4, .int v3, .int (x6 + (1 : Int32))] [] s1 _
      refine z_goto (pn := 41) dX7_before_76 (by decide) ?_
      exact h
theorem dX7_draw_0 : decode cX7_draw 0 = .ok (.iload_n 1, 1) := by decide +kernel
theorem dX7_draw_1 : decode cX7_draw 1 = .ok (.ifCond .lt 35, 3) := by decide +kernel
theorem dX7_draw_4 : decode cX7_draw 4 = .ok (.iload_n 1, 1) := by decide +kernel
theorem dX7_draw_5 : decode cX7_draw 5 = .ok (.ldc_w 337, 3) := by decide +kernel
theorem dX7_draw_8 : decode cX7_draw 8 = .ok (.if_icmp .gt 28, 3) := by decide +kernel
theorem dX7_draw_11 : decode cX7_draw 11 = .ok (.iload_n 2, 1) := by decide +kernel
theorem dX7_draw_12 : decode cX7_draw 12 = .ok (.iconst 1, 1) := by decide +kernel
theorem dX7_draw_13 : decode cX7_draw 13 = .ok (.if_icmp .lt 23, 3) := by decide +kernel
theorem dX7_draw_16 : decode cX7_draw 16 = .ok (.iload_n 2, 1) := by decide +kernel
theorem dX7_draw_17 : decode cX7_draw 17 = .ok (.bipush 20, 2) := by decide +kernel
theorem dX7_draw_19 : decode cX7_draw 19 = .ok (.if_icmp .gt 17, 3) := by decide +kernel
theorem dX7_draw_22 : decode cX7_draw 22 = .ok (.aload_n 0, 1) := by decide +kernel
theorem dX7_draw_23 : decode cX7_draw 23 = .ok (.getfield 103, 3) := by decide +kernel
theorem dX7_draw_26 : decode cX7_draw 26 = .ok (.ifCond .eq 10, 3) := by decide +kernel
theorem dX7_draw_29 : decode cX7_draw 29 = .ok (.aload_n 0, 1) := by decide +kernel
theorem dX7_draw_30 : decode cX7_draw 30 = .ok (.getfield 94, 3) := by decide +kernel
theorem dX7_draw_33 : decode cX7_draw 33 = .ok (.ifCond .ne 5, 3) := by decide +kernel
theorem dX7_draw_36 : decode cX7_draw 36 = .ok (.iconst (-1), 1) := by decide +kernel
theorem dX7_draw_37 : decode cX7_draw 37 = .ok (.ireturn, 1) := by decide +kernel
theorem dX7_draw_38 : decode cX7_draw 38 = .ok (.aload_n 0, 1) := by decide +kernel
theorem dX7_draw_39 : decode cX7_draw 39 = .ok (.iload_n 1, 1) := by decide +kernel
theorem dX7_draw_40 : decode cX7_draw 40 = .ok (.putfield 338, 3) := by decide +kernel
theorem dX7_draw_43 : decode cX7_draw 43 = .ok (.iconst 0, 1) := by decide +kernel
theorem dX7_draw_44 : decode cX7_draw 44 = .ok (.istore_n 3, 1) := by decide +kernel
theorem dX7_draw_45 : decode cX7_draw 45 = .ok (.iconst 0, 1) := by decide +kernel
theorem dX7_draw_46 : decode cX7_draw 46 = .ok (.istore 4, 2) := by decide +kernel
theorem dX7_draw_48 : decode cX7_draw 48 = .ok (.iload 4, 2) := by decide +kernel
theorem dX7_draw_50 : decode cX7_draw 50 = .ok (.iload_n 2, 1) := by decide +kernel
theorem dX7_draw_51 : decode cX7_draw 51 = .ok (.if_icmp .ge 19, 3) := by decide +kernel
theorem dX7_draw_54 : decode cX7_draw 54 = .ok (.aload_n 0, 1) := by decide +kernel
theorem dX7_draw_55 : decode cX7_draw 55 = .ok (.invokevirtual 341, 3) := by decide +kernel
theorem dX7_draw_58 : decode cX7_draw 58 = .ok (.ifCond .eq 6, 3) := by decide +kernel
theorem dX7_draw_61 : decode cX7_draw 61 = .ok (.iinc 3 1, 3) := by decide +kernel
theorem dX7_draw_64 : decode cX7_draw 64 = .ok (.iinc 4 1, 3) := by decide +kernel
theorem dX7_draw_67 : decode cX7_draw 67 = .ok (.goto (-19), 3) := by decide +kernel
theorem dX7_draw_70 : decode cX7_draw 70 = .ok (.iload_n 3, 1) := by decide +kernel
theorem dX7_draw_71 : decode cX7_draw 71 = .ok (.ireturn, 1) := by decide +kernel
set_option maxHeartbeats 4000000 in
set_option maxRecDepth 100000 in
theorem t_X7_draw {l : Launch} {g : zG} {d : Nat} {s : zS} (hR : zRok s) {p0 : Int32} {p1 : Int32} {K : Int32 → zS → Prop} (h : (if p0 < 0 then K (-1 : Int32) s else (if (1000000 : Int32) < p0 then K (-1 : Int32) s else (if p1 < (1 : Int32) then K (-1 : Int32) s else (if (20 : Int32) < p1 then K (-1 : Int32) s else (if (s.1 64 5) = 0 then K (-1 : Int32) s else (if (s.1 64 3) = 0 then K (-1 : Int32) s else zt l g (d + 1) M_X7_draw 48 [.ref 64, zJ, .int p1, .int (0 : Int32), .int (0 : Int32)] [] (zI s 64 18 p0) (zKi K)))))))) : zc l g (d + 1) M_X7_draw [.ref 64, .int p0, .int p1] s (zKi K) := by
  refine zCall_of k_X7_draw (Nat.le_of_ble_eq_true rfl) (Nat.le_refl _) (fun _ => ?_)
  show zt l g (d + 1) M_X7_draw 0 [.ref 64, .int p0, .int p1, zJ, zJ] [] s (zKi K)
  refine z_iload_n (i := 1) dX7_draw_0 rfl rfl rfl ?_
  refine z_if_lt (pt := 36) dX7_draw_1 (by decide) rfl (fun c => ?_) (fun c => ?_)
  · have h := zit h c
    refine z_iconst (v := (-1 : Int32)) dX7_draw_36 (by decide) rfl ?_
    exact z_ret (some (.int (-1 : Int32))) (Or.inr (Or.inl ⟨_, _, rfl, rfl, rfl, dX7_draw_37⟩)) zN200 ⟨_, rfl, h⟩
  · have h := zif h c
    refine z_iload_n (i := 1) dX7_draw_4 rfl rfl rfl ?_
    refine z_ldc_w (v := (1000000 : Int32)) q_X7_337 dX7_draw_5 rfl ?_
    refine z_icmp_gt (pt := 36) dX7_draw_8 (by decide) rfl (fun c => ?_) (fun c => ?_)
    · have h := zit h c
      refine z_iconst (v := (-1 : Int32)) dX7_draw_36 (by decide) rfl ?_
      exact z_ret (some (.int (-1 : Int32))) (Or.inr (Or.inl ⟨_, _, rfl, rfl, rfl, dX7_draw_37⟩)) zN200 ⟨_, rfl, h⟩
    · have h := zif h c
      refine z_iload_n (i := 2) dX7_draw_11 rfl rfl rfl ?_
      refine z_iconst (v := (1 : Int32)) dX7_draw_12 (by decide) rfl ?_
      refine z_icmp_lt (pt := 36) dX7_draw_13 (by decide) rfl (fun c => ?_) (fun c => ?_)
      · have h := zit h c
        refine z_iconst (v := (-1 : Int32)) dX7_draw_36 (by decide) rfl ?_
        exact z_ret (some (.int (-1 : Int32))) (Or.inr (Or.inl ⟨_, _, rfl, rfl, rfl, dX7_draw_37⟩)) zN200 ⟨_, rfl, h⟩
      · have h := zif h c
        refine z_iload_n (i := 2) dX7_draw_16 rfl rfl rfl ?_
        refine z_bipush (v := (20 : Int32)) dX7_draw_17 (by decide) rfl ?_
        refine z_icmp_gt (pt := 36) dX7_draw_19 (by decide) rfl (fun c => ?_) (fun c => ?_)
        · have h := zit h c
          refine z_iconst (v := (-1 : Int32)) dX7_draw_36 (by decide) rfl ?_
          exact z_ret (some (.int (-1 : Int32))) (Or.inr (Or.inl ⟨_, _, rfl, rfl, rfl, dX7_draw_37⟩)) zN200 ⟨_, rfl, h⟩
        · have h := zif h c
          refine z_aload_n (i := 0) dX7_draw_22 rfl rfl rfl ?_
          refine z_getI (x := s.1 64 5) rfl f_X7_103 i_64 rfl dX7_draw_23 rfl ?_
          refine z_if_eq (pt := 36) dX7_draw_26 (by decide) rfl (fun c => ?_) (fun c => ?_)
          · have h := zit h c
            refine z_iconst (v := (-1 : Int32)) dX7_draw_36 (by decide) rfl ?_
            exact z_ret (some (.int (-1 : Int32))) (Or.inr (Or.inl ⟨_, _, rfl, rfl, rfl, dX7_draw_37⟩)) zN200 ⟨_, rfl, h⟩
          · have h := zif h c
            refine z_aload_n (i := 0) dX7_draw_29 rfl rfl rfl ?_
            refine z_getI (x := s.1 64 3) rfl f_X7_94 i_64 rfl dX7_draw_30 rfl ?_
            refine z_if_ne (pt := 38) dX7_draw_33 (by decide) rfl (fun c => ?_) (fun c => ?_)
            · have h := zif h c
              refine z_aload_n (i := 0) dX7_draw_38 rfl rfl rfl ?_
              refine z_iload_n (i := 1) dX7_draw_39 rfl rfl rfl ?_
              refine z_putI f_X7_338 i_64 rfl (Or.inl rfl) rfl rfl dX7_draw_40 rfl ?_
              refine z_iconst (v := (0 : Int32)) dX7_draw_43 (by decide) rfl ?_
              refine z_istore_n (i := 3) dX7_draw_44 rfl (by decide) (zokd rfl) rfl ?_
              show zt l g (d + 1) M_X7_draw 45 [.ref 64, .int p0, .int p1, .int (0 : Int32), zJ] [] (zI s 64 18 p0) _
              refine z_iconst (v := (0 : Int32)) dX7_draw_45 (by decide) rfl ?_
              refine z_istore dX7_draw_46 (by decide) (zokd rfl) rfl ?_
              show zt l g (d + 1) M_X7_draw 48 [.ref 64, .int p0, .int p1, .int (0 : Int32), .int (0 : Int32)] [] (zI s 64 18 p0) _
              refine z_wk (ls' := [.ref 64, zJ, .int p1, .int (0 : Int32), .int (0 : Int32)]) ⟨Or.inr rfl, Or.inl rfl, Or.inr rfl, Or.inr rfl, Or.inr rfl, trivial⟩ ?_
              exact h
            · have h := zit h c
              refine z_iconst (v := (-1 : Int32)) dX7_draw_36 (by decide) rfl ?_
              exact z_ret (some (.int (-1 : Int32))) (Or.inr (Or.inl ⟨_, _, rfl, rfl, rfl, dX7_draw_37⟩)) zN200 ⟨_, rfl, h⟩
set_option maxHeartbeats 4000000 in
set_option maxRecDepth 100000 in
theorem t_X7_draw_48 {l : Launch} {g : zG} {d : Nat} {s : zS} (hR : zRok s) {x2 : Int32} {x3 : Int32} {x4 : Int32} {K : Int32 → zS → Prop} (h : (if x2 ≤ x4 then K x3 s else (zc l g d M_X7_drawTelling [.ref 64] s (zKz (fun b2 s1 => s1.2.2.1 = s.2.2.1 ∧ (if b2 = true then zt l g (d + 1) M_X7_draw 48 [.ref 64, zJ, .int x2, .int (x3 + (1 : Int32)), .int (x4 + (1 : Int32))] [] s1 (zKi K) else zt l g (d + 1) M_X7_draw 48 [.ref 64, zJ, .int x2, .int x3, .int (x4 + (1 : Int32))] [] s1 (zKi K))))))) : zt l g (d + 1) M_X7_draw 48 [.ref 64, zJ, .int x2, .int x3, .int x4] [] s (zKi K) := by
  refine z_iload dX7_draw_48 rfl rfl ?_
  refine z_iload_n (i := 2) dX7_draw_50 rfl rfl rfl ?_
  refine z_icmp_ge (pt := 70) dX7_draw_51 (by decide) rfl (fun c => ?_) (fun c => ?_)
  · have h := zit h c
    refine z_iload_n (i := 3) dX7_draw_70 rfl rfl rfl ?_
    exact z_ret (some (.int x3)) (Or.inr (Or.inl ⟨_, _, rfl, rfl, rfl, dX7_draw_71⟩)) zN200 ⟨_, rfl, h⟩
  · have h := zif h c
    refine z_aload_n (i := 0) dX7_draw_54 rfl rfl rfl ?_
    refine z_callV k_X7_drawTelling m_X7_341 (zRec_of i_64) rfl h rfl (Nat.le_of_ble_eq_true rfl) dX7_draw_55 zy200 rfl ?_
    rintro v s1 ⟨b2, rfl, hRs1, h⟩
    show zt l g (d + 1) M_X7_draw 58 [.ref 64, zJ, .int x2, .int x3, .int x4] [.int (zb b2)] s1 _
    refine z_ifb_eq (pt := 64) dX7_draw_58 (by decide) rfl (fun c => ?_) (fun c => ?_)
    · have h := zif h (by rw [c]; exact Bool.false_ne_true)
      refine z_iinc (v := x4 + (1 : Int32)) dX7_draw_64 rfl rfl (by decide) (zokd rfl) rfl ?_
      show zt l g (d + 1) M_X7_draw 67 [.ref 64, zJ, .int x2, .int x3, .int (x4 + (1 : Int32))] [] s1 _
      refine z_goto (pn := 48) dX7_draw_67 (by decide) ?_
      exact h
    · have h := zit h c
      refine z_iinc (v := x3 + (1 : Int32)) dX7_draw_61 rfl rfl (by decide) (zokd rfl) rfl ?_
      show zt l g (d + 1) M_X7_draw 64 [.ref 64, zJ, .int x2, .int (x3 + (1 : Int32)), .int x4] [] s1 _
      refine z_iinc (v := x4 + (1 : Int32)) dX7_draw_64 rfl rfl (by decide) (zokd rfl) rfl ?_
      show zt l g (d + 1) M_X7_draw 67 [.ref 64, zJ, .int x2, .int (x3 + (1 : Int32)), .int (x4 + (1 : Int32))] [] s1 _
      refine z_goto (pn := 48) dX7_draw_67 (by decide) ?_
      exact h
theorem dX7_count_0 : decode cX7_count 0 = .ok (.iload_n 1, 1) := by decide +kernel
theorem dX7_count_1 : decode cX7_count 1 = .ok (.tableswitch 96 0 7 #[47, 55, 60, 65, 70, 78, 83, 88], 47) := by decide +kernel
theorem dX7_count_48 : decode cX7_count 48 = .ok (.aload_n 0, 1) := by decide +kernel
theorem dX7_count_49 : decode cX7_count 49 = .ok (.getfield 12, 3) := by decide +kernel
theorem dX7_count_52 : decode cX7_count 52 = .ok (.getfield 345, 3) := by decide +kernel
theorem dX7_count_55 : decode cX7_count 55 = .ok (.ireturn, 1) := by decide +kernel
theorem dX7_count_56 : decode cX7_count 56 = .ok (.aload_n 0, 1) := by decide +kernel
theorem dX7_count_57 : decode cX7_count 57 = .ok (.getfield 94, 3) := by decide +kernel
theorem dX7_count_60 : decode cX7_count 60 = .ok (.ireturn, 1) := by decide +kernel
theorem dX7_count_61 : decode cX7_count 61 = .ok (.aload_n 0, 1) := by decide +kernel
theorem dX7_count_62 : decode cX7_count 62 = .ok (.getfield 103, 3) := by decide +kernel
theorem dX7_count_65 : decode cX7_count 65 = .ok (.ireturn, 1) := by decide +kernel
theorem dX7_count_66 : decode cX7_count 66 = .ok (.aload_n 0, 1) := by decide +kernel
theorem dX7_count_67 : decode cX7_count 67 = .ok (.getfield 200, 3) := by decide +kernel
theorem dX7_count_70 : decode cX7_count 70 = .ok (.ireturn, 1) := by decide +kernel
theorem dX7_count_71 : decode cX7_count 71 = .ok (.aload_n 0, 1) := by decide +kernel
theorem dX7_count_72 : decode cX7_count 72 = .ok (.getfield 74, 3) := by decide +kernel
theorem dX7_count_75 : decode cX7_count 75 = .ok (.getfield 310, 3) := by decide +kernel
theorem dX7_count_78 : decode cX7_count 78 = .ok (.ireturn, 1) := by decide +kernel
theorem dX7_count_79 : decode cX7_count 79 = .ok (.aload_n 0, 1) := by decide +kernel
theorem dX7_count_80 : decode cX7_count 80 = .ok (.getfield 41, 3) := by decide +kernel
theorem dX7_count_83 : decode cX7_count 83 = .ok (.ireturn, 1) := by decide +kernel
theorem dX7_count_84 : decode cX7_count 84 = .ok (.aload_n 0, 1) := by decide +kernel
theorem dX7_count_85 : decode cX7_count 85 = .ok (.getfield 45, 3) := by decide +kernel
theorem dX7_count_88 : decode cX7_count 88 = .ok (.ireturn, 1) := by decide +kernel
theorem dX7_count_89 : decode cX7_count 89 = .ok (.aload_n 0, 1) := by decide +kernel
theorem dX7_count_90 : decode cX7_count 90 = .ok (.getfield 67, 3) := by decide +kernel
theorem dX7_count_93 : decode cX7_count 93 = .ok (.getfield 299, 3) := by decide +kernel
theorem dX7_count_96 : decode cX7_count 96 = .ok (.ireturn, 1) := by decide +kernel
theorem dX7_count_97 : decode cX7_count 97 = .ok (.iconst (-1), 1) := by decide +kernel
theorem dX7_count_98 : decode cX7_count 98 = .ok (.ireturn, 1) := by decide +kernel
set_option maxHeartbeats 4000000 in
set_option maxRecDepth 100000 in
theorem t_X7_count {l : Launch} {g : zG} {d : Nat} {s : zS} (hR : zRok s) {p0 : Int32} {rn : Nat} (hrn : s.2.2.1 64 15 = rn) (hrb : rn = 79 ∨ rn = 85) {K : Int32 → zS → Prop} (h : (if p0 = (0 : Int32) then K (s.1 65 3) s else (if p0 = (1 : Int32) then K (s.1 64 3) s else (if p0 = (2 : Int32) then K (s.1 64 5) s else (if p0 = (3 : Int32) then K (s.1 64 7) s else (if p0 = (4 : Int32) then K (s.1 rn 5) s else (if p0 = (5 : Int32) then K (s.1 64 8) s else (if p0 = (6 : Int32) then K (s.1 64 9) s else (if p0 = (7 : Int32) then K (s.1 75 1) s else K (-1 : Int32) s))))))))) : zc l g d M_X7_count [.ref 64, .int p0] s (zKi K) := by
  refine zCall_of k_X7_count (Nat.le_of_ble_eq_true rfl) (Nat.le_refl _) (fun _ => ?_)
  show zt l g d M_X7_count 0 [.ref 64, .int p0] [] s (zKi K)
  refine z_iload_n (i := 1) dX7_count_0 rfl rfl rfl ?_
  by_cases c0 : p0 = (0 : Int32)
  · have h := zit h c0
    refine z_tableIn (pt := 48) dX7_count_1 (by rw [c0]; decide) (by rw [c0]; decide) (by rw [c0]; rfl) (by decide) ?_
    refine z_aload_n (i := 0) dX7_count_48 rfl rfl rfl ?_
    refine z_getR (q := 65) f_X7_12 i_64 rfl (r_64_0 hR) (by decide) dX7_count_49 rfl ?_
    refine z_getI (x := s.1 65 3) rfl f_X7_345 i_65 rfl dX7_count_52 rfl ?_
    exact z_ret (some (.int (s.1 65 3))) (Or.inr (Or.inl ⟨_, _, rfl, rfl, rfl, dX7_count_55⟩)) zN200 ⟨_, rfl, h⟩
  have h := zif h c0
  by_cases c1 : p0 = (1 : Int32)
  · have h := zit h c1
    refine z_tableIn (pt := 56) dX7_count_1 (by rw [c1]; decide) (by rw [c1]; decide) (by rw [c1]; rfl) (by decide) ?_
    refine z_aload_n (i := 0) dX7_count_56 rfl rfl rfl ?_
    refine z_getI (x := s.1 64 3) rfl f_X7_94 i_64 rfl dX7_count_57 rfl ?_
    exact z_ret (some (.int (s.1 64 3))) (Or.inr (Or.inl ⟨_, _, rfl, rfl, rfl, dX7_count_60⟩)) zN200 ⟨_, rfl, h⟩
  have h := zif h c1
  by_cases c2 : p0 = (2 : Int32)
  · have h := zit h c2
    refine z_tableIn (pt := 61) dX7_count_1 (by rw [c2]; decide) (by rw [c2]; decide) (by rw [c2]; rfl) (by decide) ?_
    refine z_aload_n (i := 0) dX7_count_61 rfl rfl rfl ?_
    refine z_getI (x := s.1 64 5) rfl f_X7_103 i_64 rfl dX7_count_62 rfl ?_
    exact z_ret (some (.int (s.1 64 5))) (Or.inr (Or.inl ⟨_, _, rfl, rfl, rfl, dX7_count_65⟩)) zN200 ⟨_, rfl, h⟩
  have h := zif h c2
  by_cases c3 : p0 = (3 : Int32)
  · have h := zit h c3
    refine z_tableIn (pt := 66) dX7_count_1 (by rw [c3]; decide) (by rw [c3]; decide) (by rw [c3]; rfl) (by decide) ?_
    refine z_aload_n (i := 0) dX7_count_66 rfl rfl rfl ?_
    refine z_getI (x := s.1 64 7) rfl f_X7_200 i_64 rfl dX7_count_67 rfl ?_
    exact z_ret (some (.int (s.1 64 7))) (Or.inr (Or.inl ⟨_, _, rfl, rfl, rfl, dX7_count_70⟩)) zN200 ⟨_, rfl, h⟩
  have h := zif h c3
  by_cases c4 : p0 = (4 : Int32)
  · have h := zit h c4
    refine z_tableIn (pt := 71) dX7_count_1 (by rw [c4]; decide) (by rw [c4]; decide) (by rw [c4]; rfl) (by decide) ?_
    refine z_aload_n (i := 0) dX7_count_71 rfl rfl rfl ?_
    refine z_getR (q := rn) f_X7_74 i_64 rfl (hrn) (by omega) dX7_count_72 rfl ?_
    refine z_getI (x := s.1 rn 5) rfl f_X7_310 (i_Ru hrb) rfl dX7_count_75 rfl ?_
    exact z_ret (some (.int (s.1 rn 5))) (Or.inr (Or.inl ⟨_, _, rfl, rfl, rfl, dX7_count_78⟩)) zN200 ⟨_, rfl, h⟩
  have h := zif h c4
  by_cases c5 : p0 = (5 : Int32)
  · have h := zit h c5
    refine z_tableIn (pt := 79) dX7_count_1 (by rw [c5]; decide) (by rw [c5]; decide) (by rw [c5]; rfl) (by decide) ?_
    refine z_aload_n (i := 0) dX7_count_79 rfl rfl rfl ?_
    refine z_getI (x := s.1 64 8) rfl f_X7_41 i_64 rfl dX7_count_80 rfl ?_
    exact z_ret (some (.int (s.1 64 8))) (Or.inr (Or.inl ⟨_, _, rfl, rfl, rfl, dX7_count_83⟩)) zN200 ⟨_, rfl, h⟩
  have h := zif h c5
  by_cases c6 : p0 = (6 : Int32)
  · have h := zit h c6
    refine z_tableIn (pt := 84) dX7_count_1 (by rw [c6]; decide) (by rw [c6]; decide) (by rw [c6]; rfl) (by decide) ?_
    refine z_aload_n (i := 0) dX7_count_84 rfl rfl rfl ?_
    refine z_getI (x := s.1 64 9) rfl f_X7_45 i_64 rfl dX7_count_85 rfl ?_
    exact z_ret (some (.int (s.1 64 9))) (Or.inr (Or.inl ⟨_, _, rfl, rfl, rfl, dX7_count_88⟩)) zN200 ⟨_, rfl, h⟩
  have h := zif h c6
  by_cases c7 : p0 = (7 : Int32)
  · have h := zit h c7
    refine z_tableIn (pt := 89) dX7_count_1 (by rw [c7]; decide) (by rw [c7]; decide) (by rw [c7]; rfl) (by decide) ?_
    refine z_aload_n (i := 0) dX7_count_89 rfl rfl rfl ?_
    refine z_getR (q := 75) f_X7_67 i_64 rfl (r_64_14 hR) (by decide) dX7_count_90 rfl ?_
    refine z_getI (x := s.1 75 1) rfl f_X7_299 i_75 rfl dX7_count_93 rfl ?_
    exact z_ret (some (.int (s.1 75 1))) (Or.inr (Or.inl ⟨_, _, rfl, rfl, rfl, dX7_count_96⟩)) zN200 ⟨_, rfl, h⟩
  have h := zif h c7
  refine z_tableOut (pt := 97) dX7_count_1 (z_swout 0 8 (fun j hj => ?_)) (by decide) ?_
  · rcases (show j = 0 ∨ j = 1 ∨ j = 2 ∨ j = 3 ∨ j = 4 ∨ j = 5 ∨ j = 6 ∨ j = 7 by omega) with rfl | rfl | rfl | rfl | rfl | rfl | rfl | rfl
    · exact c0
    · exact c1
    · exact c2
    · exact c3
    · exact c4
    · exact c5
    · exact c6
    · exact c7
  · refine z_iconst (v := (-1 : Int32)) dX7_count_97 (by decide) rfl ?_
    exact z_ret (some (.int (-1 : Int32))) (Or.inr (Or.inl ⟨_, _, rfl, rfl, rfl, dX7_count_98⟩)) zN200 ⟨_, rfl, h⟩
theorem dX7_isPlace_0 : decode cX7_isPlace 0 = .ok (.iload_n 0, 1) := by decide +kernel
theorem dX7_isPlace_1 : decode cX7_isPlace 1 = .ok (.ifCond .lt 14, 3) := by decide +kernel
theorem dX7_isPlace_4 : decode cX7_isPlace 4 = .ok (.iload_n 0, 1) := by decide +kernel
theorem dX7_isPlace_5 : decode cX7_isPlace 5 = .ok (.sipush 4096, 3) := by decide +kernel
theorem dX7_isPlace_8 : decode cX7_isPlace 8 = .ok (.if_icmp .ge 7, 3) := by decide +kernel
theorem dX7_isPlace_11 : decode cX7_isPlace 11 = .ok (.iconst 1, 1) := by decide +kernel
theorem dX7_isPlace_12 : decode cX7_isPlace 12 = .ok (.goto 4, 3) := by decide +kernel
theorem dX7_isPlace_15 : decode cX7_isPlace 15 = .ok (.iconst 0, 1) := by decide +kernel
theorem dX7_isPlace_16 : decode cX7_isPlace 16 = .ok (.ireturn, 1) := by decide +kernel
set_option maxHeartbeats 4000000 in
set_option maxRecDepth 100000 in
theorem t_X7_isPlace {l : Launch} {g : zG} {d : Nat} {s : zS} (hR : zRok s) {p0 : Int32} {K : Bool → zS → Prop} (h : (if p0 < 0 then K false s else (if (4096 : Int32) ≤ p0 then K false s else K true s))) : zc l g d M_X7_isPlace [.int p0] s (zKz K) := by
  refine zCall_of k_X7_isPlace (Nat.le_of_ble_eq_true rfl) (Nat.le_refl _) (fun _ => ?_)
  show zt l g d M_X7_isPlace 0 [.int p0] [] s (zKz K)
  refine z_iload_n (i := 0) dX7_isPlace_0 rfl rfl rfl ?_
  refine z_if_lt (pt := 15) dX7_isPlace_1 (by decide) rfl (fun c => ?_) (fun c => ?_)
  · have h := zit h c
    refine z_iconst (v := (0 : Int32)) dX7_isPlace_15 (by decide) rfl ?_
    exact z_ret (some (.int (zb false))) (Or.inr (Or.inl ⟨_, _, rfl, rfl, zb_nar _, dX7_isPlace_16⟩)) zN200 ⟨_, rfl, h⟩
  · have h := zif h c
    refine z_iload_n (i := 0) dX7_isPlace_4 rfl rfl rfl ?_
    refine z_sipush (v := (4096 : Int32)) dX7_isPlace_5 (by decide) rfl ?_
    refine z_icmp_ge (pt := 15) dX7_isPlace_8 (by decide) rfl (fun c => ?_) (fun c => ?_)
    · have h := zit h c
      refine z_iconst (v := (0 : Int32)) dX7_isPlace_15 (by decide) rfl ?_
      exact z_ret (some (.int (zb false))) (Or.inr (Or.inl ⟨_, _, rfl, rfl, zb_nar _, dX7_isPlace_16⟩)) zN200 ⟨_, rfl, h⟩
    · have h := zif h c
      refine z_iconst (v := (1 : Int32)) dX7_isPlace_11 (by decide) rfl ?_
      refine z_goto (pn := 16) dX7_isPlace_12 (by decide) ?_
      exact z_ret (some (.int (zb true))) (Or.inr (Or.inl ⟨_, _, rfl, rfl, zb_nar _, dX7_isPlace_16⟩)) zN200 ⟨_, rfl, h⟩
theorem dX7_isMinute_0 : decode cX7_isMinute 0 = .ok (.iload_n 0, 1) := by decide +kernel
theorem dX7_isMinute_1 : decode cX7_isMinute 1 = .ok (.ifCond .lt 14, 3) := by decide +kernel
theorem dX7_isMinute_4 : decode cX7_isMinute 4 = .ok (.iload_n 0, 1) := by decide +kernel
theorem dX7_isMinute_5 : decode cX7_isMinute 5 = .ok (.sipush 240, 3) := by decide +kernel
theorem dX7_isMinute_8 : decode cX7_isMinute 8 = .ok (.if_icmp .ge 7, 3) := by decide +kernel
theorem dX7_isMinute_11 : decode cX7_isMinute 11 = .ok (.iconst 1, 1) := by decide +kernel
theorem dX7_isMinute_12 : decode cX7_isMinute 12 = .ok (.goto 4, 3) := by decide +kernel
theorem dX7_isMinute_15 : decode cX7_isMinute 15 = .ok (.iconst 0, 1) := by decide +kernel
theorem dX7_isMinute_16 : decode cX7_isMinute 16 = .ok (.ireturn, 1) := by decide +kernel
set_option maxHeartbeats 4000000 in
set_option maxRecDepth 100000 in
theorem t_X7_isMinute {l : Launch} {g : zG} {d : Nat} {s : zS} (hR : zRok s) {p0 : Int32} {K : Bool → zS → Prop} (h : (if p0 < 0 then K false s else (if (240 : Int32) ≤ p0 then K false s else K true s))) : zc l g d M_X7_isMinute [.int p0] s (zKz K) := by
  refine zCall_of k_X7_isMinute (Nat.le_of_ble_eq_true rfl) (Nat.le_refl _) (fun _ => ?_)
  show zt l g d M_X7_isMinute 0 [.int p0] [] s (zKz K)
  refine z_iload_n (i := 0) dX7_isMinute_0 rfl rfl rfl ?_
  refine z_if_lt (pt := 15) dX7_isMinute_1 (by decide) rfl (fun c => ?_) (fun c => ?_)
  · have h := zit h c
    refine z_iconst (v := (0 : Int32)) dX7_isMinute_15 (by decide) rfl ?_
    exact z_ret (some (.int (zb false))) (Or.inr (Or.inl ⟨_, _, rfl, rfl, zb_nar _, dX7_isMinute_16⟩)) zN200 ⟨_, rfl, h⟩
  · have h := zif h c
    refine z_iload_n (i := 0) dX7_isMinute_4 rfl rfl rfl ?_
    refine z_sipush (v := (240 : Int32)) dX7_isMinute_5 (by decide) rfl ?_
    refine z_icmp_ge (pt := 15) dX7_isMinute_8 (by decide) rfl (fun c => ?_) (fun c => ?_)
    · have h := zit h c
      refine z_iconst (v := (0 : Int32)) dX7_isMinute_15 (by decide) rfl ?_
      exact z_ret (some (.int (zb false))) (Or.inr (Or.inl ⟨_, _, rfl, rfl, zb_nar _, dX7_isMinute_16⟩)) zN200 ⟨_, rfl, h⟩
    · have h := zif h c
      refine z_iconst (v := (1 : Int32)) dX7_isMinute_11 (by decide) rfl ?_
      refine z_goto (pn := 16) dX7_isMinute_12 (by decide) ?_
      exact z_ret (some (.int (zb true))) (Or.inr (Or.inl ⟨_, _, rfl, rfl, zb_nar _, dX7_isMinute_16⟩)) zN200 ⟨_, rfl, h⟩
theorem dX7_isSpan_0 : decode cX7_isSpan 0 = .ok (.iload_n 0, 1) := by decide +kernel
theorem dX7_isSpan_1 : decode cX7_isSpan 1 = .ok (.ifCond .lt 42, 3) := by decide +kernel
theorem dX7_isSpan_4 : decode cX7_isSpan 4 = .ok (.iload_n 0, 1) := by decide +kernel
theorem dX7_isSpan_5 : decode cX7_isSpan 5 = .ok (.sipush 1000, 3) := by decide +kernel
theorem dX7_isSpan_8 : decode cX7_isSpan 8 = .ok (.idiv, 1) := by decide +kernel
theorem dX7_isSpan_9 : decode cX7_isSpan 9 = .ok (.sipush 240, 3) := by decide +kernel
theorem dX7_isSpan_12 : decode cX7_isSpan 12 = .ok (.if_icmp .ge 31, 3) := by decide +kernel
theorem dX7_isSpan_15 : decode cX7_isSpan 15 = .ok (.iload_n 0, 1) := by decide +kernel
theorem dX7_isSpan_16 : decode cX7_isSpan 16 = .ok (.sipush 1000, 3) := by decide +kernel
theorem dX7_isSpan_19 : decode cX7_isSpan 19 = .ok (.irem, 1) := by decide +kernel
theorem dX7_isSpan_20 : decode cX7_isSpan 20 = .ok (.sipush 240, 3) := by decide +kernel
theorem dX7_isSpan_23 : decode cX7_isSpan 23 = .ok (.if_icmp .ge 20, 3) := by decide +kernel
theorem dX7_isSpan_26 : decode cX7_isSpan 26 = .ok (.iload_n 0, 1) := by decide +kernel
theorem dX7_isSpan_27 : decode cX7_isSpan 27 = .ok (.sipush 1000, 3) := by decide +kernel
theorem dX7_isSpan_30 : decode cX7_isSpan 30 = .ok (.idiv, 1) := by decide +kernel
theorem dX7_isSpan_31 : decode cX7_isSpan 31 = .ok (.iload_n 0, 1) := by decide +kernel
theorem dX7_isSpan_32 : decode cX7_isSpan 32 = .ok (.sipush 1000, 3) := by decide +kernel
theorem dX7_isSpan_35 : decode cX7_isSpan 35 = .ok (.irem, 1) := by decide +kernel
theorem dX7_isSpan_36 : decode cX7_isSpan 36 = .ok (.if_icmp .gt 7, 3) := by decide +kernel
theorem dX7_isSpan_39 : decode cX7_isSpan 39 = .ok (.iconst 1, 1) := by decide +kernel
theorem dX7_isSpan_40 : decode cX7_isSpan 40 = .ok (.goto 4, 3) := by decide +kernel
theorem dX7_isSpan_43 : decode cX7_isSpan 43 = .ok (.iconst 0, 1) := by decide +kernel
theorem dX7_isSpan_44 : decode cX7_isSpan 44 = .ok (.ireturn, 1) := by decide +kernel
set_option maxHeartbeats 4000000 in
set_option maxRecDepth 100000 in
theorem t_X7_isSpan {l : Launch} {g : zG} {d : Nat} {s : zS} (hR : zRok s) {p0 : Int32} {K : Bool → zS → Prop} (h : (if p0 < 0 then K false s else (if (240 : Int32) ≤ (p0 / (1000 : Int32)) then K false s else (if (240 : Int32) ≤ (p0 % (1000 : Int32)) then K false s else (if (p0 % (1000 : Int32)) < (p0 / (1000 : Int32)) then K false s else K true s))))) : zc l g d M_X7_isSpan [.int p0] s (zKz K) := by
  refine zCall_of k_X7_isSpan (Nat.le_of_ble_eq_true rfl) (Nat.le_refl _) (fun _ => ?_)
  show zt l g d M_X7_isSpan 0 [.int p0] [] s (zKz K)
  refine z_iload_n (i := 0) dX7_isSpan_0 rfl rfl rfl ?_
  refine z_if_lt (pt := 43) dX7_isSpan_1 (by decide) rfl (fun c => ?_) (fun c => ?_)
  · have h := zit h c
    refine z_iconst (v := (0 : Int32)) dX7_isSpan_43 (by decide) rfl ?_
    exact z_ret (some (.int (zb false))) (Or.inr (Or.inl ⟨_, _, rfl, rfl, zb_nar _, dX7_isSpan_44⟩)) zN200 ⟨_, rfl, h⟩
  · have h := zif h c
    refine z_iload_n (i := 0) dX7_isSpan_4 rfl rfl rfl ?_
    refine z_sipush (v := (1000 : Int32)) dX7_isSpan_5 (by decide) rfl ?_
    refine z_idiv dX7_isSpan_8 (by decide) rfl ?_
    refine z_sipush (v := (240 : Int32)) dX7_isSpan_9 (by decide) rfl ?_
    refine z_icmp_ge (pt := 43) dX7_isSpan_12 (by decide) rfl (fun c => ?_) (fun c => ?_)
    · have h := zit h c
      refine z_iconst (v := (0 : Int32)) dX7_isSpan_43 (by decide) rfl ?_
      exact z_ret (some (.int (zb false))) (Or.inr (Or.inl ⟨_, _, rfl, rfl, zb_nar _, dX7_isSpan_44⟩)) zN200 ⟨_, rfl, h⟩
    · have h := zif h c
      refine z_iload_n (i := 0) dX7_isSpan_15 rfl rfl rfl ?_
      refine z_sipush (v := (1000 : Int32)) dX7_isSpan_16 (by decide) rfl ?_
      refine z_irem dX7_isSpan_19 (by decide) rfl ?_
      refine z_sipush (v := (240 : Int32)) dX7_isSpan_20 (by decide) rfl ?_
      refine z_icmp_ge (pt := 43) dX7_isSpan_23 (by decide) rfl (fun c => ?_) (fun c => ?_)
      · have h := zit h c
        refine z_iconst (v := (0 : Int32)) dX7_isSpan_43 (by decide) rfl ?_
        exact z_ret (some (.int (zb false))) (Or.inr (Or.inl ⟨_, _, rfl, rfl, zb_nar _, dX7_isSpan_44⟩)) zN200 ⟨_, rfl, h⟩
      · have h := zif h c
        refine z_iload_n (i := 0) dX7_isSpan_26 rfl rfl rfl ?_
        refine z_sipush (v := (1000 : Int32)) dX7_isSpan_27 (by decide) rfl ?_
        refine z_idiv dX7_isSpan_30 (by decide) rfl ?_
        refine z_iload_n (i := 0) dX7_isSpan_31 rfl rfl rfl ?_
        refine z_sipush (v := (1000 : Int32)) dX7_isSpan_32 (by decide) rfl ?_
        refine z_irem dX7_isSpan_35 (by decide) rfl ?_
        refine z_icmp_gt (pt := 43) dX7_isSpan_36 (by decide) rfl (fun c => ?_) (fun c => ?_)
        · have h := zit h c
          refine z_iconst (v := (0 : Int32)) dX7_isSpan_43 (by decide) rfl ?_
          exact z_ret (some (.int (zb false))) (Or.inr (Or.inl ⟨_, _, rfl, rfl, zb_nar _, dX7_isSpan_44⟩)) zN200 ⟨_, rfl, h⟩
        · have h := zif h c
          refine z_iconst (v := (1 : Int32)) dX7_isSpan_39 (by decide) rfl ?_
          refine z_goto (pn := 44) dX7_isSpan_40 (by decide) ?_
          exact z_ret (some (.int (zb true))) (Or.inr (Or.inl ⟨_, _, rfl, rfl, zb_nar _, dX7_isSpan_44⟩)) zN200 ⟨_, rfl, h⟩
theorem dX7_isHeight_0 : decode cX7_isHeight 0 = .ok (.iload_n 0, 1) := by decide +kernel
theorem dX7_isHeight_1 : decode cX7_isHeight 1 = .ok (.ifCond .lt 14, 3) := by decide +kernel
theorem dX7_isHeight_4 : decode cX7_isHeight 4 = .ok (.iload_n 0, 1) := by decide +kernel
theorem dX7_isHeight_5 : decode cX7_isHeight 5 = .ok (.sipush 255, 3) := by decide +kernel
theorem dX7_isHeight_8 : decode cX7_isHeight 8 = .ok (.if_icmp .gt 7, 3) := by decide +kernel
theorem dX7_isHeight_11 : decode cX7_isHeight 11 = .ok (.iconst 1, 1) := by decide +kernel
theorem dX7_isHeight_12 : decode cX7_isHeight 12 = .ok (.goto 4, 3) := by decide +kernel
theorem dX7_isHeight_15 : decode cX7_isHeight 15 = .ok (.iconst 0, 1) := by decide +kernel
theorem dX7_isHeight_16 : decode cX7_isHeight 16 = .ok (.ireturn, 1) := by decide +kernel
set_option maxHeartbeats 4000000 in
set_option maxRecDepth 100000 in
theorem t_X7_isHeight {l : Launch} {g : zG} {d : Nat} {s : zS} (hR : zRok s) {p0 : Int32} {K : Bool → zS → Prop} (h : (if p0 < 0 then K false s else (if (255 : Int32) < p0 then K false s else K true s))) : zc l g d M_X7_isHeight [.int p0] s (zKz K) := by
  refine zCall_of k_X7_isHeight (Nat.le_of_ble_eq_true rfl) (Nat.le_refl _) (fun _ => ?_)
  show zt l g d M_X7_isHeight 0 [.int p0] [] s (zKz K)
  refine z_iload_n (i := 0) dX7_isHeight_0 rfl rfl rfl ?_
  refine z_if_lt (pt := 15) dX7_isHeight_1 (by decide) rfl (fun c => ?_) (fun c => ?_)
  · have h := zit h c
    refine z_iconst (v := (0 : Int32)) dX7_isHeight_15 (by decide) rfl ?_
    exact z_ret (some (.int (zb false))) (Or.inr (Or.inl ⟨_, _, rfl, rfl, zb_nar _, dX7_isHeight_16⟩)) zN200 ⟨_, rfl, h⟩
  · have h := zif h c
    refine z_iload_n (i := 0) dX7_isHeight_4 rfl rfl rfl ?_
    refine z_sipush (v := (255 : Int32)) dX7_isHeight_5 (by decide) rfl ?_
    refine z_icmp_gt (pt := 15) dX7_isHeight_8 (by decide) rfl (fun c => ?_) (fun c => ?_)
    · have h := zit h c
      refine z_iconst (v := (0 : Int32)) dX7_isHeight_15 (by decide) rfl ?_
      exact z_ret (some (.int (zb false))) (Or.inr (Or.inl ⟨_, _, rfl, rfl, zb_nar _, dX7_isHeight_16⟩)) zN200 ⟨_, rfl, h⟩
    · have h := zif h c
      refine z_iconst (v := (1 : Int32)) dX7_isHeight_11 (by decide) rfl ?_
      refine z_goto (pn := 16) dX7_isHeight_12 (by decide) ?_
      exact z_ret (some (.int (zb true))) (Or.inr (Or.inl ⟨_, _, rfl, rfl, zb_nar _, dX7_isHeight_16⟩)) zN200 ⟨_, rfl, h⟩
theorem dX7_isFall_0 : decode cX7_isFall 0 = .ok (.iload_n 0, 1) := by decide +kernel
theorem dX7_isFall_1 : decode cX7_isFall 1 = .ok (.ifCond .lt 13, 3) := by decide +kernel
theorem dX7_isFall_4 : decode cX7_isFall 4 = .ok (.iload_n 0, 1) := by decide +kernel
theorem dX7_isFall_5 : decode cX7_isFall 5 = .ok (.bipush 20, 2) := by decide +kernel
theorem dX7_isFall_7 : decode cX7_isFall 7 = .ok (.if_icmp .gt 7, 3) := by decide +kernel
theorem dX7_isFall_10 : decode cX7_isFall 10 = .ok (.iconst 1, 1) := by decide +kernel
theorem dX7_isFall_11 : decode cX7_isFall 11 = .ok (.goto 4, 3) := by decide +kernel
theorem dX7_isFall_14 : decode cX7_isFall 14 = .ok (.iconst 0, 1) := by decide +kernel
theorem dX7_isFall_15 : decode cX7_isFall 15 = .ok (.ireturn, 1) := by decide +kernel
set_option maxHeartbeats 4000000 in
set_option maxRecDepth 100000 in
theorem t_X7_isFall {l : Launch} {g : zG} {d : Nat} {s : zS} (hR : zRok s) {p0 : Int32} {K : Bool → zS → Prop} (h : (if p0 < 0 then K false s else (if (20 : Int32) < p0 then K false s else K true s))) : zc l g d M_X7_isFall [.int p0] s (zKz K) := by
  refine zCall_of k_X7_isFall (Nat.le_of_ble_eq_true rfl) (Nat.le_refl _) (fun _ => ?_)
  show zt l g d M_X7_isFall 0 [.int p0] [] s (zKz K)
  refine z_iload_n (i := 0) dX7_isFall_0 rfl rfl rfl ?_
  refine z_if_lt (pt := 14) dX7_isFall_1 (by decide) rfl (fun c => ?_) (fun c => ?_)
  · have h := zit h c
    refine z_iconst (v := (0 : Int32)) dX7_isFall_14 (by decide) rfl ?_
    exact z_ret (some (.int (zb false))) (Or.inr (Or.inl ⟨_, _, rfl, rfl, zb_nar _, dX7_isFall_15⟩)) zN200 ⟨_, rfl, h⟩
  · have h := zif h c
    refine z_iload_n (i := 0) dX7_isFall_4 rfl rfl rfl ?_
    refine z_bipush (v := (20 : Int32)) dX7_isFall_5 (by decide) rfl ?_
    refine z_icmp_gt (pt := 14) dX7_isFall_7 (by decide) rfl (fun c => ?_) (fun c => ?_)
    · have h := zit h c
      refine z_iconst (v := (0 : Int32)) dX7_isFall_14 (by decide) rfl ?_
      exact z_ret (some (.int (zb false))) (Or.inr (Or.inl ⟨_, _, rfl, rfl, zb_nar _, dX7_isFall_15⟩)) zN200 ⟨_, rfl, h⟩
    · have h := zif h c
      refine z_iconst (v := (1 : Int32)) dX7_isFall_10 (by decide) rfl ?_
      refine z_goto (pn := 15) dX7_isFall_11 (by decide) ?_
      exact z_ret (some (.int (zb true))) (Or.inr (Or.inl ⟨_, _, rfl, rfl, zb_nar _, dX7_isFall_15⟩)) zN200 ⟨_, rfl, h⟩
theorem dX7_isSpeed_0 : decode cX7_isSpeed 0 = .ok (.iload_n 0, 1) := by decide +kernel
theorem dX7_isSpeed_1 : decode cX7_isSpeed 1 = .ok (.ifCond .lt 25, 3) := by decide +kernel
theorem dX7_isSpeed_4 : decode cX7_isSpeed 4 = .ok (.iload_n 0, 1) := by decide +kernel
theorem dX7_isSpeed_5 : decode cX7_isSpeed 5 = .ok (.bipush 100, 2) := by decide +kernel
theorem dX7_isSpeed_7 : decode cX7_isSpeed 7 = .ok (.idiv, 1) := by decide +kernel
theorem dX7_isSpeed_8 : decode cX7_isSpeed 8 = .ok (.bipush 40, 2) := by decide +kernel
theorem dX7_isSpeed_10 : decode cX7_isSpeed 10 = .ok (.if_icmp .gt 16, 3) := by decide +kernel
theorem dX7_isSpeed_13 : decode cX7_isSpeed 13 = .ok (.iload_n 0, 1) := by decide +kernel
theorem dX7_isSpeed_14 : decode cX7_isSpeed 14 = .ok (.bipush 100, 2) := by decide +kernel
theorem dX7_isSpeed_16 : decode cX7_isSpeed 16 = .ok (.irem, 1) := by decide +kernel
theorem dX7_isSpeed_17 : decode cX7_isSpeed 17 = .ok (.bipush 40, 2) := by decide +kernel
theorem dX7_isSpeed_19 : decode cX7_isSpeed 19 = .ok (.if_icmp .gt 7, 3) := by decide +kernel
theorem dX7_isSpeed_22 : decode cX7_isSpeed 22 = .ok (.iconst 1, 1) := by decide +kernel
theorem dX7_isSpeed_23 : decode cX7_isSpeed 23 = .ok (.goto 4, 3) := by decide +kernel
theorem dX7_isSpeed_26 : decode cX7_isSpeed 26 = .ok (.iconst 0, 1) := by decide +kernel
theorem dX7_isSpeed_27 : decode cX7_isSpeed 27 = .ok (.ireturn, 1) := by decide +kernel
set_option maxHeartbeats 4000000 in
set_option maxRecDepth 100000 in
theorem t_X7_isSpeed {l : Launch} {g : zG} {d : Nat} {s : zS} (hR : zRok s) {p0 : Int32} {K : Bool → zS → Prop} (h : (if p0 < 0 then K false s else (if (40 : Int32) < (p0 / (100 : Int32)) then K false s else (if (40 : Int32) < (p0 % (100 : Int32)) then K false s else K true s)))) : zc l g d M_X7_isSpeed [.int p0] s (zKz K) := by
  refine zCall_of k_X7_isSpeed (Nat.le_of_ble_eq_true rfl) (Nat.le_refl _) (fun _ => ?_)
  show zt l g d M_X7_isSpeed 0 [.int p0] [] s (zKz K)
  refine z_iload_n (i := 0) dX7_isSpeed_0 rfl rfl rfl ?_
  refine z_if_lt (pt := 26) dX7_isSpeed_1 (by decide) rfl (fun c => ?_) (fun c => ?_)
  · have h := zit h c
    refine z_iconst (v := (0 : Int32)) dX7_isSpeed_26 (by decide) rfl ?_
    exact z_ret (some (.int (zb false))) (Or.inr (Or.inl ⟨_, _, rfl, rfl, zb_nar _, dX7_isSpeed_27⟩)) zN200 ⟨_, rfl, h⟩
  · have h := zif h c
    refine z_iload_n (i := 0) dX7_isSpeed_4 rfl rfl rfl ?_
    refine z_bipush (v := (100 : Int32)) dX7_isSpeed_5 (by decide) rfl ?_
    refine z_idiv dX7_isSpeed_7 (by decide) rfl ?_
    refine z_bipush (v := (40 : Int32)) dX7_isSpeed_8 (by decide) rfl ?_
    refine z_icmp_gt (pt := 26) dX7_isSpeed_10 (by decide) rfl (fun c => ?_) (fun c => ?_)
    · have h := zit h c
      refine z_iconst (v := (0 : Int32)) dX7_isSpeed_26 (by decide) rfl ?_
      exact z_ret (some (.int (zb false))) (Or.inr (Or.inl ⟨_, _, rfl, rfl, zb_nar _, dX7_isSpeed_27⟩)) zN200 ⟨_, rfl, h⟩
    · have h := zif h c
      refine z_iload_n (i := 0) dX7_isSpeed_13 rfl rfl rfl ?_
      refine z_bipush (v := (100 : Int32)) dX7_isSpeed_14 (by decide) rfl ?_
      refine z_irem dX7_isSpeed_16 (by decide) rfl ?_
      refine z_bipush (v := (40 : Int32)) dX7_isSpeed_17 (by decide) rfl ?_
      refine z_icmp_gt (pt := 26) dX7_isSpeed_19 (by decide) rfl (fun c => ?_) (fun c => ?_)
      · have h := zit h c
        refine z_iconst (v := (0 : Int32)) dX7_isSpeed_26 (by decide) rfl ?_
        exact z_ret (some (.int (zb false))) (Or.inr (Or.inl ⟨_, _, rfl, rfl, zb_nar _, dX7_isSpeed_27⟩)) zN200 ⟨_, rfl, h⟩
      · have h := zif h c
        refine z_iconst (v := (1 : Int32)) dX7_isSpeed_22 (by decide) rfl ?_
        refine z_goto (pn := 27) dX7_isSpeed_23 (by decide) ?_
        exact z_ret (some (.int (zb true))) (Or.inr (Or.inl ⟨_, _, rfl, rfl, zb_nar _, dX7_isSpeed_27⟩)) zN200 ⟨_, rfl, h⟩
theorem dX7_isWay_0 : decode cX7_isWay 0 = .ok (.iload_n 0, 1) := by decide +kernel
theorem dX7_isWay_1 : decode cX7_isWay 1 = .ok (.ifCond .lt 14, 3) := by decide +kernel
theorem dX7_isWay_4 : decode cX7_isWay 4 = .ok (.iload_n 0, 1) := by decide +kernel
theorem dX7_isWay_5 : decode cX7_isWay 5 = .ok (.sipush 256, 3) := by decide +kernel
theorem dX7_isWay_8 : decode cX7_isWay 8 = .ok (.if_icmp .ge 7, 3) := by decide +kernel
theorem dX7_isWay_11 : decode cX7_isWay 11 = .ok (.iconst 1, 1) := by decide +kernel
theorem dX7_isWay_12 : decode cX7_isWay 12 = .ok (.goto 4, 3) := by decide +kernel
theorem dX7_isWay_15 : decode cX7_isWay 15 = .ok (.iconst 0, 1) := by decide +kernel
theorem dX7_isWay_16 : decode cX7_isWay 16 = .ok (.ireturn, 1) := by decide +kernel
set_option maxHeartbeats 4000000 in
set_option maxRecDepth 100000 in
theorem t_X7_isWay {l : Launch} {g : zG} {d : Nat} {s : zS} (hR : zRok s) {p0 : Int32} {K : Bool → zS → Prop} (h : (if p0 < 0 then K false s else (if (256 : Int32) ≤ p0 then K false s else K true s))) : zc l g d M_X7_isWay [.int p0] s (zKz K) := by
  refine zCall_of k_X7_isWay (Nat.le_of_ble_eq_true rfl) (Nat.le_refl _) (fun _ => ?_)
  show zt l g d M_X7_isWay 0 [.int p0] [] s (zKz K)
  refine z_iload_n (i := 0) dX7_isWay_0 rfl rfl rfl ?_
  refine z_if_lt (pt := 15) dX7_isWay_1 (by decide) rfl (fun c => ?_) (fun c => ?_)
  · have h := zit h c
    refine z_iconst (v := (0 : Int32)) dX7_isWay_15 (by decide) rfl ?_
    exact z_ret (some (.int (zb false))) (Or.inr (Or.inl ⟨_, _, rfl, rfl, zb_nar _, dX7_isWay_16⟩)) zN200 ⟨_, rfl, h⟩
  · have h := zif h c
    refine z_iload_n (i := 0) dX7_isWay_4 rfl rfl rfl ?_
    refine z_sipush (v := (256 : Int32)) dX7_isWay_5 (by decide) rfl ?_
    refine z_icmp_ge (pt := 15) dX7_isWay_8 (by decide) rfl (fun c => ?_) (fun c => ?_)
    · have h := zit h c
      refine z_iconst (v := (0 : Int32)) dX7_isWay_15 (by decide) rfl ?_
      exact z_ret (some (.int (zb false))) (Or.inr (Or.inl ⟨_, _, rfl, rfl, zb_nar _, dX7_isWay_16⟩)) zN200 ⟨_, rfl, h⟩
    · have h := zif h c
      refine z_iconst (v := (1 : Int32)) dX7_isWay_11 (by decide) rfl ?_
      refine z_goto (pn := 16) dX7_isWay_12 (by decide) ?_
      exact z_ret (some (.int (zb true))) (Or.inr (Or.inl ⟨_, _, rfl, rfl, zb_nar _, dX7_isWay_16⟩)) zN200 ⟨_, rfl, h⟩
theorem dX7_isToldSlope_0 : decode cX7_isToldSlope 0 = .ok (.iload_n 0, 1) := by decide +kernel
theorem dX7_isToldSlope_1 : decode cX7_isToldSlope 1 = .ok (.ifCond .lt 14, 3) := by decide +kernel
theorem dX7_isToldSlope_4 : decode cX7_isToldSlope 4 = .ok (.iload_n 0, 1) := by decide +kernel
theorem dX7_isToldSlope_5 : decode cX7_isToldSlope 5 = .ok (.sipush 999, 3) := by decide +kernel
theorem dX7_isToldSlope_8 : decode cX7_isToldSlope 8 = .ok (.if_icmp .gt 7, 3) := by decide +kernel
theorem dX7_isToldSlope_11 : decode cX7_isToldSlope 11 = .ok (.iconst 1, 1) := by decide +kernel
theorem dX7_isToldSlope_12 : decode cX7_isToldSlope 12 = .ok (.goto 4, 3) := by decide +kernel
theorem dX7_isToldSlope_15 : decode cX7_isToldSlope 15 = .ok (.iconst 0, 1) := by decide +kernel
theorem dX7_isToldSlope_16 : decode cX7_isToldSlope 16 = .ok (.ireturn, 1) := by decide +kernel
set_option maxHeartbeats 4000000 in
set_option maxRecDepth 100000 in
theorem t_X7_isToldSlope {l : Launch} {g : zG} {d : Nat} {s : zS} (hR : zRok s) {p0 : Int32} {K : Bool → zS → Prop} (h : (if p0 < 0 then K false s else (if (999 : Int32) < p0 then K false s else K true s))) : zc l g d M_X7_isToldSlope [.int p0] s (zKz K) := by
  refine zCall_of k_X7_isToldSlope (Nat.le_of_ble_eq_true rfl) (Nat.le_refl _) (fun _ => ?_)
  show zt l g d M_X7_isToldSlope 0 [.int p0] [] s (zKz K)
  refine z_iload_n (i := 0) dX7_isToldSlope_0 rfl rfl rfl ?_
  refine z_if_lt (pt := 15) dX7_isToldSlope_1 (by decide) rfl (fun c => ?_) (fun c => ?_)
  · have h := zit h c
    refine z_iconst (v := (0 : Int32)) dX7_isToldSlope_15 (by decide) rfl ?_
    exact z_ret (some (.int (zb false))) (Or.inr (Or.inl ⟨_, _, rfl, rfl, zb_nar _, dX7_isToldSlope_16⟩)) zN200 ⟨_, rfl, h⟩
  · have h := zif h c
    refine z_iload_n (i := 0) dX7_isToldSlope_4 rfl rfl rfl ?_
    refine z_sipush (v := (999 : Int32)) dX7_isToldSlope_5 (by decide) rfl ?_
    refine z_icmp_gt (pt := 15) dX7_isToldSlope_8 (by decide) rfl (fun c => ?_) (fun c => ?_)
    · have h := zit h c
      refine z_iconst (v := (0 : Int32)) dX7_isToldSlope_15 (by decide) rfl ?_
      exact z_ret (some (.int (zb false))) (Or.inr (Or.inl ⟨_, _, rfl, rfl, zb_nar _, dX7_isToldSlope_16⟩)) zN200 ⟨_, rfl, h⟩
    · have h := zif h c
      refine z_iconst (v := (1 : Int32)) dX7_isToldSlope_11 (by decide) rfl ?_
      refine z_goto (pn := 16) dX7_isToldSlope_12 (by decide) ?_
      exact z_ret (some (.int (zb true))) (Or.inr (Or.inl ⟨_, _, rfl, rfl, zb_nar _, dX7_isToldSlope_16⟩)) zN200 ⟨_, rfl, h⟩
theorem dX7_isDirection_0 : decode cX7_isDirection 0 = .ok (.iload_n 0, 1) := by decide +kernel
theorem dX7_isDirection_1 : decode cX7_isDirection 1 = .ok (.ifCond .lt 18, 3) := by decide +kernel
theorem dX7_isDirection_4 : decode cX7_isDirection 4 = .ok (.iload_n 0, 1) := by decide +kernel
theorem dX7_isDirection_5 : decode cX7_isDirection 5 = .ok (.sipush 1000, 3) := by decide +kernel
theorem dX7_isDirection_8 : decode cX7_isDirection 8 = .ok (.idiv, 1) := by decide +kernel
theorem dX7_isDirection_9 : decode cX7_isDirection 9 = .ok (.sipush 256, 3) := by decide +kernel
theorem dX7_isDirection_12 : decode cX7_isDirection 12 = .ok (.if_icmp .ge 7, 3) := by decide +kernel
theorem dX7_isDirection_15 : decode cX7_isDirection 15 = .ok (.iconst 1, 1) := by decide +kernel
theorem dX7_isDirection_16 : decode cX7_isDirection 16 = .ok (.goto 4, 3) := by decide +kernel
theorem dX7_isDirection_19 : decode cX7_isDirection 19 = .ok (.iconst 0, 1) := by decide +kernel
theorem dX7_isDirection_20 : decode cX7_isDirection 20 = .ok (.ireturn, 1) := by decide +kernel
set_option maxHeartbeats 4000000 in
set_option maxRecDepth 100000 in
theorem t_X7_isDirection {l : Launch} {g : zG} {d : Nat} {s : zS} (hR : zRok s) {p0 : Int32} {K : Bool → zS → Prop} (h : (if p0 < 0 then K false s else (if (256 : Int32) ≤ (p0 / (1000 : Int32)) then K false s else K true s))) : zc l g d M_X7_isDirection [.int p0] s (zKz K) := by
  refine zCall_of k_X7_isDirection (Nat.le_of_ble_eq_true rfl) (Nat.le_refl _) (fun _ => ?_)
  show zt l g d M_X7_isDirection 0 [.int p0] [] s (zKz K)
  refine z_iload_n (i := 0) dX7_isDirection_0 rfl rfl rfl ?_
  refine z_if_lt (pt := 19) dX7_isDirection_1 (by decide) rfl (fun c => ?_) (fun c => ?_)
  · have h := zit h c
    refine z_iconst (v := (0 : Int32)) dX7_isDirection_19 (by decide) rfl ?_
    exact z_ret (some (.int (zb false))) (Or.inr (Or.inl ⟨_, _, rfl, rfl, zb_nar _, dX7_isDirection_20⟩)) zN200 ⟨_, rfl, h⟩
  · have h := zif h c
    refine z_iload_n (i := 0) dX7_isDirection_4 rfl rfl rfl ?_
    refine z_sipush (v := (1000 : Int32)) dX7_isDirection_5 (by decide) rfl ?_
    refine z_idiv dX7_isDirection_8 (by decide) rfl ?_
    refine z_sipush (v := (256 : Int32)) dX7_isDirection_9 (by decide) rfl ?_
    refine z_icmp_ge (pt := 19) dX7_isDirection_12 (by decide) rfl (fun c => ?_) (fun c => ?_)
    · have h := zit h c
      refine z_iconst (v := (0 : Int32)) dX7_isDirection_19 (by decide) rfl ?_
      exact z_ret (some (.int (zb false))) (Or.inr (Or.inl ⟨_, _, rfl, rfl, zb_nar _, dX7_isDirection_20⟩)) zN200 ⟨_, rfl, h⟩
    · have h := zif h c
      refine z_iconst (v := (1 : Int32)) dX7_isDirection_15 (by decide) rfl ?_
      refine z_goto (pn := 20) dX7_isDirection_16 (by decide) ?_
      exact z_ret (some (.int (zb true))) (Or.inr (Or.inl ⟨_, _, rfl, rfl, zb_nar _, dX7_isDirection_20⟩)) zN200 ⟨_, rfl, h⟩
theorem dX7_isLights_0 : decode cX7_isLights 0 = .ok (.iload_n 0, 1) := by decide +kernel
theorem dX7_isLights_1 : decode cX7_isLights 1 = .ok (.iconst 1, 1) := by decide +kernel
theorem dX7_isLights_2 : decode cX7_isLights 2 = .ok (.if_icmp .lt 13, 3) := by decide +kernel
theorem dX7_isLights_5 : decode cX7_isLights 5 = .ok (.iload_n 0, 1) := by decide +kernel
theorem dX7_isLights_6 : decode cX7_isLights 6 = .ok (.bipush 9, 2) := by decide +kernel
theorem dX7_isLights_8 : decode cX7_isLights 8 = .ok (.if_icmp .gt 7, 3) := by decide +kernel
theorem dX7_isLights_11 : decode cX7_isLights 11 = .ok (.iconst 1, 1) := by decide +kernel
theorem dX7_isLights_12 : decode cX7_isLights 12 = .ok (.goto 4, 3) := by decide +kernel
theorem dX7_isLights_15 : decode cX7_isLights 15 = .ok (.iconst 0, 1) := by decide +kernel
theorem dX7_isLights_16 : decode cX7_isLights 16 = .ok (.ireturn, 1) := by decide +kernel
set_option maxHeartbeats 4000000 in
set_option maxRecDepth 100000 in
theorem t_X7_isLights {l : Launch} {g : zG} {d : Nat} {s : zS} (hR : zRok s) {p0 : Int32} {K : Bool → zS → Prop} (h : (if p0 < (1 : Int32) then K false s else (if (9 : Int32) < p0 then K false s else K true s))) : zc l g d M_X7_isLights [.int p0] s (zKz K) := by
  refine zCall_of k_X7_isLights (Nat.le_of_ble_eq_true rfl) (Nat.le_refl _) (fun _ => ?_)
  show zt l g d M_X7_isLights 0 [.int p0] [] s (zKz K)
  refine z_iload_n (i := 0) dX7_isLights_0 rfl rfl rfl ?_
  refine z_iconst (v := (1 : Int32)) dX7_isLights_1 (by decide) rfl ?_
  refine z_icmp_lt (pt := 15) dX7_isLights_2 (by decide) rfl (fun c => ?_) (fun c => ?_)
  · have h := zit h c
    refine z_iconst (v := (0 : Int32)) dX7_isLights_15 (by decide) rfl ?_
    exact z_ret (some (.int (zb false))) (Or.inr (Or.inl ⟨_, _, rfl, rfl, zb_nar _, dX7_isLights_16⟩)) zN200 ⟨_, rfl, h⟩
  · have h := zif h c
    refine z_iload_n (i := 0) dX7_isLights_5 rfl rfl rfl ?_
    refine z_bipush (v := (9 : Int32)) dX7_isLights_6 (by decide) rfl ?_
    refine z_icmp_gt (pt := 15) dX7_isLights_8 (by decide) rfl (fun c => ?_) (fun c => ?_)
    · have h := zit h c
      refine z_iconst (v := (0 : Int32)) dX7_isLights_15 (by decide) rfl ?_
      exact z_ret (some (.int (zb false))) (Or.inr (Or.inl ⟨_, _, rfl, rfl, zb_nar _, dX7_isLights_16⟩)) zN200 ⟨_, rfl, h⟩
    · have h := zif h c
      refine z_iconst (v := (1 : Int32)) dX7_isLights_11 (by decide) rfl ?_
      refine z_goto (pn := 16) dX7_isLights_12 (by decide) ?_
      exact z_ret (some (.int (zb true))) (Or.inr (Or.inl ⟨_, _, rfl, rfl, zb_nar _, dX7_isLights_16⟩)) zN200 ⟨_, rfl, h⟩
theorem dX7_isHull_0 : decode cX7_isHull 0 = .ok (.iload_n 0, 1) := by decide +kernel
theorem dX7_isHull_1 : decode cX7_isHull 1 = .ok (.ifCond .eq 8, 3) := by decide +kernel
theorem dX7_isHull_4 : decode cX7_isHull 4 = .ok (.iload_n 0, 1) := by decide +kernel
theorem dX7_isHull_5 : decode cX7_isHull 5 = .ok (.iconst 1, 1) := by decide +kernel
theorem dX7_isHull_6 : decode cX7_isHull 6 = .ok (.if_icmp .ne 7, 3) := by decide +kernel
theorem dX7_isHull_9 : decode cX7_isHull 9 = .ok (.iconst 1, 1) := by decide +kernel
theorem dX7_isHull_10 : decode cX7_isHull 10 = .ok (.goto 4, 3) := by decide +kernel
theorem dX7_isHull_13 : decode cX7_isHull 13 = .ok (.iconst 0, 1) := by decide +kernel
theorem dX7_isHull_14 : decode cX7_isHull 14 = .ok (.ireturn, 1) := by decide +kernel
set_option maxHeartbeats 4000000 in
set_option maxRecDepth 100000 in
theorem t_X7_isHull {l : Launch} {g : zG} {d : Nat} {s : zS} (hR : zRok s) {p0 : Int32} {K : Bool → zS → Prop} (h : (if p0 = 0 then K true s else (if p0 = (1 : Int32) then K true s else K false s))) : zc l g d M_X7_isHull [.int p0] s (zKz K) := by
  refine zCall_of k_X7_isHull (Nat.le_of_ble_eq_true rfl) (Nat.le_refl _) (fun _ => ?_)
  show zt l g d M_X7_isHull 0 [.int p0] [] s (zKz K)
  refine z_iload_n (i := 0) dX7_isHull_0 rfl rfl rfl ?_
  refine z_if_eq (pt := 9) dX7_isHull_1 (by decide) rfl (fun c => ?_) (fun c => ?_)
  · have h := zit h c
    refine z_iconst (v := (1 : Int32)) dX7_isHull_9 (by decide) rfl ?_
    refine z_goto (pn := 14) dX7_isHull_10 (by decide) ?_
    exact z_ret (some (.int (zb true))) (Or.inr (Or.inl ⟨_, _, rfl, rfl, zb_nar _, dX7_isHull_14⟩)) zN200 ⟨_, rfl, h⟩
  · have h := zif h c
    refine z_iload_n (i := 0) dX7_isHull_4 rfl rfl rfl ?_
    refine z_iconst (v := (1 : Int32)) dX7_isHull_5 (by decide) rfl ?_
    refine z_icmp_ne (pt := 13) dX7_isHull_6 (by decide) rfl (fun c => ?_) (fun c => ?_)
    · have h := zif h c
      refine z_iconst (v := (0 : Int32)) dX7_isHull_13 (by decide) rfl ?_
      exact z_ret (some (.int (zb false))) (Or.inr (Or.inl ⟨_, _, rfl, rfl, zb_nar _, dX7_isHull_14⟩)) zN200 ⟨_, rfl, h⟩
    · have h := zit h c
      refine z_iconst (v := (1 : Int32)) dX7_isHull_9 (by decide) rfl ?_
      refine z_goto (pn := 14) dX7_isHull_10 (by decide) ?_
      exact z_ret (some (.int (zb true))) (Or.inr (Or.inl ⟨_, _, rfl, rfl, zb_nar _, dX7_isHull_14⟩)) zN200 ⟨_, rfl, h⟩
theorem dX7_isLightsAndHull_0 : decode cX7_isLightsAndHull 0 = .ok (.iload_n 0, 1) := by decide +kernel
theorem dX7_isLightsAndHull_1 : decode cX7_isLightsAndHull 1 = .ok (.ifCond .lt 27, 3) := by decide +kernel
theorem dX7_isLightsAndHull_4 : decode cX7_isLightsAndHull 4 = .ok (.iload_n 0, 1) := by decide +kernel
theorem dX7_isLightsAndHull_5 : decode cX7_isLightsAndHull 5 = .ok (.bipush 10, 2) := by decide +kernel
theorem dX7_isLightsAndHull_7 : decode cX7_isLightsAndHull 7 = .ok (.irem, 1) := by decide +kernel
theorem dX7_isLightsAndHull_8 : decode cX7_isLightsAndHull 8 = .ok (.invokestatic 286, 3) := by decide +kernel
theorem dX7_isLightsAndHull_11 : decode cX7_isLightsAndHull 11 = .ok (.ifCond .eq 17, 3) := by decide +kernel
theorem dX7_isLightsAndHull_14 : decode cX7_isLightsAndHull 14 = .ok (.iload_n 0, 1) := by decide +kernel
theorem dX7_isLightsAndHull_15 : decode cX7_isLightsAndHull 15 = .ok (.bipush 10, 2) := by decide +kernel
theorem dX7_isLightsAndHull_17 : decode cX7_isLightsAndHull 17 = .ok (.idiv, 1) := by decide +kernel
theorem dX7_isLightsAndHull_18 : decode cX7_isLightsAndHull 18 = .ok (.invokestatic 330, 3) := by decide +kernel
theorem dX7_isLightsAndHull_21 : decode cX7_isLightsAndHull 21 = .ok (.ifCond .eq 7, 3) := by decide +kernel
theorem dX7_isLightsAndHull_24 : decode cX7_isLightsAndHull 24 = .ok (.iconst 1, 1) := by decide +kernel
theorem dX7_isLightsAndHull_25 : decode cX7_isLightsAndHull 25 = .ok (.goto 4, 3) := by decide +kernel
theorem dX7_isLightsAndHull_28 : decode cX7_isLightsAndHull 28 = .ok (.iconst 0, 1) := by decide +kernel
theorem dX7_isLightsAndHull_29 : decode cX7_isLightsAndHull 29 = .ok (.ireturn, 1) := by decide +kernel
set_option maxHeartbeats 4000000 in
set_option maxRecDepth 100000 in
theorem t_X7_isLightsAndHull {l : Launch} {g : zG} {d : Nat} {s : zS} (hR : zRok s) {p0 : Int32} {K : Bool → zS → Prop} (h : (if p0 < 0 then K false s else (zc l g d M_X7_isLights [.int (p0 % (10 : Int32))] s (zKz (fun b2 s1 => s1.2.2.1 = s.2.2.1 ∧ (if b2 = true then (zc l g d M_X7_isHull [.int (p0 / (10 : Int32))] s1 (zKz (fun b4 s3 => s3.2.2.1 = s1.2.2.1 ∧ (if b4 = true then K true s3 else K false s3)))) else K false s1)))))) : zc l g (d + 1) M_X7_isLightsAndHull [.int p0] s (zKz K) := by
  refine zCall_of k_X7_isLightsAndHull (Nat.le_of_ble_eq_true rfl) (Nat.le_refl _) (fun _ => ?_)
  show zt l g (d + 1) M_X7_isLightsAndHull 0 [.int p0] [] s (zKz K)
  refine z_iload_n (i := 0) dX7_isLightsAndHull_0 rfl rfl rfl ?_
  refine z_if_lt (pt := 28) dX7_isLightsAndHull_1 (by decide) rfl (fun c => ?_) (fun c => ?_)
  · have h := zit h c
    refine z_iconst (v := (0 : Int32)) dX7_isLightsAndHull_28 (by decide) rfl ?_
    exact z_ret (some (.int (zb false))) (Or.inr (Or.inl ⟨_, _, rfl, rfl, zb_nar _, dX7_isLightsAndHull_29⟩)) zN200 ⟨_, rfl, h⟩
  · have h := zif h c
    refine z_iload_n (i := 0) dX7_isLightsAndHull_4 rfl rfl rfl ?_
    refine z_bipush (v := (10 : Int32)) dX7_isLightsAndHull_5 (by decide) rfl ?_
    refine z_irem dX7_isLightsAndHull_7 (by decide) rfl ?_
    refine z_callS (as := [.int (p0 % (10 : Int32))]) k_X7_isLights m_X7_286 rfl h rfl (Nat.le_of_ble_eq_true rfl) dX7_isLightsAndHull_8 zy200 rfl ?_
    rintro v s1 ⟨b2, rfl, hRs1, h⟩
    show zt l g (d + 1) M_X7_isLightsAndHull 11 [.int p0] [.int (zb b2)] s1 _
    refine z_ifb_eq (pt := 28) dX7_isLightsAndHull_11 (by decide) rfl (fun c => ?_) (fun c => ?_)
    · have h := zif h (by rw [c]; exact Bool.false_ne_true)
      refine z_iconst (v := (0 : Int32)) dX7_isLightsAndHull_28 (by decide) rfl ?_
      exact z_ret (some (.int (zb false))) (Or.inr (Or.inl ⟨_, _, rfl, rfl, zb_nar _, dX7_isLightsAndHull_29⟩)) zN200 ⟨_, rfl, h⟩
    · have h := zit h c
      refine z_iload_n (i := 0) dX7_isLightsAndHull_14 rfl rfl rfl ?_
      refine z_bipush (v := (10 : Int32)) dX7_isLightsAndHull_15 (by decide) rfl ?_
      refine z_idiv dX7_isLightsAndHull_17 (by decide) rfl ?_
      refine z_callS (as := [.int (p0 / (10 : Int32))]) k_X7_isHull m_X7_330 rfl h rfl (Nat.le_of_ble_eq_true rfl) dX7_isLightsAndHull_18 zy200 rfl ?_
      rintro v s3 ⟨b4, rfl, hRs3, h⟩
      show zt l g (d + 1) M_X7_isLightsAndHull 21 [.int p0] [.int (zb b4)] s3 _
      refine z_ifb_eq (pt := 28) dX7_isLightsAndHull_21 (by decide) rfl (fun c => ?_) (fun c => ?_)
      · have h := zif h (by rw [c]; exact Bool.false_ne_true)
        refine z_iconst (v := (0 : Int32)) dX7_isLightsAndHull_28 (by decide) rfl ?_
        exact z_ret (some (.int (zb false))) (Or.inr (Or.inl ⟨_, _, rfl, rfl, zb_nar _, dX7_isLightsAndHull_29⟩)) zN200 ⟨_, rfl, h⟩
      · have h := zit h c
        refine z_iconst (v := (1 : Int32)) dX7_isLightsAndHull_24 (by decide) rfl ?_
        refine z_goto (pn := 29) dX7_isLightsAndHull_25 (by decide) ?_
        exact z_ret (some (.int (zb true))) (Or.inr (Or.inl ⟨_, _, rfl, rfl, zb_nar _, dX7_isLightsAndHull_29⟩)) zN200 ⟨_, rfl, h⟩
theorem dX7_isLater_0 : decode cX7_isLater 0 = .ok (.iload_n 0, 1) := by decide +kernel
theorem dX7_isLater_1 : decode cX7_isLater 1 = .ok (.ifCond .lt 13, 3) := by decide +kernel
theorem dX7_isLater_4 : decode cX7_isLater 4 = .ok (.iload_n 0, 1) := by decide +kernel
theorem dX7_isLater_5 : decode cX7_isLater 5 = .ok (.bipush 99, 2) := by decide +kernel
theorem dX7_isLater_7 : decode cX7_isLater 7 = .ok (.if_icmp .gt 7, 3) := by decide +kernel
theorem dX7_isLater_10 : decode cX7_isLater 10 = .ok (.iconst 1, 1) := by decide +kernel
theorem dX7_isLater_11 : decode cX7_isLater 11 = .ok (.goto 4, 3) := by decide +kernel
theorem dX7_isLater_14 : decode cX7_isLater 14 = .ok (.iconst 0, 1) := by decide +kernel
theorem dX7_isLater_15 : decode cX7_isLater 15 = .ok (.ireturn, 1) := by decide +kernel
set_option maxHeartbeats 4000000 in
set_option maxRecDepth 100000 in
theorem t_X7_isLater {l : Launch} {g : zG} {d : Nat} {s : zS} (hR : zRok s) {p0 : Int32} {K : Bool → zS → Prop} (h : (if p0 < 0 then K false s else (if (99 : Int32) < p0 then K false s else K true s))) : zc l g d M_X7_isLater [.int p0] s (zKz K) := by
  refine zCall_of k_X7_isLater (Nat.le_of_ble_eq_true rfl) (Nat.le_refl _) (fun _ => ?_)
  show zt l g d M_X7_isLater 0 [.int p0] [] s (zKz K)
  refine z_iload_n (i := 0) dX7_isLater_0 rfl rfl rfl ?_
  refine z_if_lt (pt := 14) dX7_isLater_1 (by decide) rfl (fun c => ?_) (fun c => ?_)
  · have h := zit h c
    refine z_iconst (v := (0 : Int32)) dX7_isLater_14 (by decide) rfl ?_
    exact z_ret (some (.int (zb false))) (Or.inr (Or.inl ⟨_, _, rfl, rfl, zb_nar _, dX7_isLater_15⟩)) zN200 ⟨_, rfl, h⟩
  · have h := zif h c
    refine z_iload_n (i := 0) dX7_isLater_4 rfl rfl rfl ?_
    refine z_bipush (v := (99 : Int32)) dX7_isLater_5 (by decide) rfl ?_
    refine z_icmp_gt (pt := 14) dX7_isLater_7 (by decide) rfl (fun c => ?_) (fun c => ?_)
    · have h := zit h c
      refine z_iconst (v := (0 : Int32)) dX7_isLater_14 (by decide) rfl ?_
      exact z_ret (some (.int (zb false))) (Or.inr (Or.inl ⟨_, _, rfl, rfl, zb_nar _, dX7_isLater_15⟩)) zN200 ⟨_, rfl, h⟩
    · have h := zif h c
      refine z_iconst (v := (1 : Int32)) dX7_isLater_10 (by decide) rfl ?_
      refine z_goto (pn := 15) dX7_isLater_11 (by decide) ?_
      exact z_ret (some (.int (zb true))) (Or.inr (Or.inl ⟨_, _, rfl, rfl, zb_nar _, dX7_isLater_15⟩)) zN200 ⟨_, rfl, h⟩
theorem dX7_isSeer_0 : decode cX7_isSeer 0 = .ok (.iload_n 1, 1) := by decide +kernel
theorem dX7_isSeer_1 : decode cX7_isSeer 1 = .ok (.ifCond .lt 15, 3) := by decide +kernel
theorem dX7_isSeer_4 : decode cX7_isSeer 4 = .ok (.iload_n 1, 1) := by decide +kernel
theorem dX7_isSeer_5 : decode cX7_isSeer 5 = .ok (.aload_n 0, 1) := by decide +kernel
theorem dX7_isSeer_6 : decode cX7_isSeer 6 = .ok (.getfield 94, 3) := by decide +kernel
theorem dX7_isSeer_9 : decode cX7_isSeer 9 = .ok (.if_icmp .ge 7, 3) := by decide +kernel
theorem dX7_isSeer_12 : decode cX7_isSeer 12 = .ok (.iconst 1, 1) := by decide +kernel
theorem dX7_isSeer_13 : decode cX7_isSeer 13 = .ok (.goto 4, 3) := by decide +kernel
theorem dX7_isSeer_16 : decode cX7_isSeer 16 = .ok (.iconst 0, 1) := by decide +kernel
theorem dX7_isSeer_17 : decode cX7_isSeer 17 = .ok (.ireturn, 1) := by decide +kernel
set_option maxHeartbeats 4000000 in
set_option maxRecDepth 100000 in
theorem t_X7_isSeer {l : Launch} {g : zG} {d : Nat} {s : zS} (hR : zRok s) {p0 : Int32} {K : Bool → zS → Prop} (h : (if p0 < 0 then K false s else (if (s.1 64 3) ≤ p0 then K false s else K true s))) : zc l g d M_X7_isSeer [.ref 64, .int p0] s (zKz K) := by
  refine zCall_of k_X7_isSeer (Nat.le_of_ble_eq_true rfl) (Nat.le_refl _) (fun _ => ?_)
  show zt l g d M_X7_isSeer 0 [.ref 64, .int p0] [] s (zKz K)
  refine z_iload_n (i := 1) dX7_isSeer_0 rfl rfl rfl ?_
  refine z_if_lt (pt := 16) dX7_isSeer_1 (by decide) rfl (fun c => ?_) (fun c => ?_)
  · have h := zit h c
    refine z_iconst (v := (0 : Int32)) dX7_isSeer_16 (by decide) rfl ?_
    exact z_ret (some (.int (zb false))) (Or.inr (Or.inl ⟨_, _, rfl, rfl, zb_nar _, dX7_isSeer_17⟩)) zN200 ⟨_, rfl, h⟩
  · have h := zif h c
    refine z_iload_n (i := 1) dX7_isSeer_4 rfl rfl rfl ?_
    refine z_aload_n (i := 0) dX7_isSeer_5 rfl rfl rfl ?_
    refine z_getI (x := s.1 64 3) rfl f_X7_94 i_64 rfl dX7_isSeer_6 rfl ?_
    refine z_icmp_ge (pt := 16) dX7_isSeer_9 (by decide) rfl (fun c => ?_) (fun c => ?_)
    · have h := zit h c
      refine z_iconst (v := (0 : Int32)) dX7_isSeer_16 (by decide) rfl ?_
      exact z_ret (some (.int (zb false))) (Or.inr (Or.inl ⟨_, _, rfl, rfl, zb_nar _, dX7_isSeer_17⟩)) zN200 ⟨_, rfl, h⟩
    · have h := zif h c
      refine z_iconst (v := (1 : Int32)) dX7_isSeer_12 (by decide) rfl ?_
      refine z_goto (pn := 17) dX7_isSeer_13 (by decide) ?_
      exact z_ret (some (.int (zb true))) (Or.inr (Or.inl ⟨_, _, rfl, rfl, zb_nar _, dX7_isSeer_17⟩)) zN200 ⟨_, rfl, h⟩
theorem dX7_isThing_0 : decode cX7_isThing 0 = .ok (.iload_n 1, 1) := by decide +kernel
theorem dX7_isThing_1 : decode cX7_isThing 1 = .ok (.ifCond .lt 15, 3) := by decide +kernel
theorem dX7_isThing_4 : decode cX7_isThing 4 = .ok (.iload_n 1, 1) := by decide +kernel
theorem dX7_isThing_5 : decode cX7_isThing 5 = .ok (.aload_n 0, 1) := by decide +kernel
theorem dX7_isThing_6 : decode cX7_isThing 6 = .ok (.getfield 103, 3) := by decide +kernel
theorem dX7_isThing_9 : decode cX7_isThing 9 = .ok (.if_icmp .ge 7, 3) := by decide +kernel
theorem dX7_isThing_12 : decode cX7_isThing 12 = .ok (.iconst 1, 1) := by decide +kernel
theorem dX7_isThing_13 : decode cX7_isThing 13 = .ok (.goto 4, 3) := by decide +kernel
theorem dX7_isThing_16 : decode cX7_isThing 16 = .ok (.iconst 0, 1) := by decide +kernel
theorem dX7_isThing_17 : decode cX7_isThing 17 = .ok (.ireturn, 1) := by decide +kernel
set_option maxHeartbeats 4000000 in
set_option maxRecDepth 100000 in
theorem t_X7_isThing {l : Launch} {g : zG} {d : Nat} {s : zS} (hR : zRok s) {p0 : Int32} {K : Bool → zS → Prop} (h : (if p0 < 0 then K false s else (if (s.1 64 5) ≤ p0 then K false s else K true s))) : zc l g d M_X7_isThing [.ref 64, .int p0] s (zKz K) := by
  refine zCall_of k_X7_isThing (Nat.le_of_ble_eq_true rfl) (Nat.le_refl _) (fun _ => ?_)
  show zt l g d M_X7_isThing 0 [.ref 64, .int p0] [] s (zKz K)
  refine z_iload_n (i := 1) dX7_isThing_0 rfl rfl rfl ?_
  refine z_if_lt (pt := 16) dX7_isThing_1 (by decide) rfl (fun c => ?_) (fun c => ?_)
  · have h := zit h c
    refine z_iconst (v := (0 : Int32)) dX7_isThing_16 (by decide) rfl ?_
    exact z_ret (some (.int (zb false))) (Or.inr (Or.inl ⟨_, _, rfl, rfl, zb_nar _, dX7_isThing_17⟩)) zN200 ⟨_, rfl, h⟩
  · have h := zif h c
    refine z_iload_n (i := 1) dX7_isThing_4 rfl rfl rfl ?_
    refine z_aload_n (i := 0) dX7_isThing_5 rfl rfl rfl ?_
    refine z_getI (x := s.1 64 5) rfl f_X7_103 i_64 rfl dX7_isThing_6 rfl ?_
    refine z_icmp_ge (pt := 16) dX7_isThing_9 (by decide) rfl (fun c => ?_) (fun c => ?_)
    · have h := zit h c
      refine z_iconst (v := (0 : Int32)) dX7_isThing_16 (by decide) rfl ?_
      exact z_ret (some (.int (zb false))) (Or.inr (Or.inl ⟨_, _, rfl, rfl, zb_nar _, dX7_isThing_17⟩)) zN200 ⟨_, rfl, h⟩
    · have h := zif h c
      refine z_iconst (v := (1 : Int32)) dX7_isThing_12 (by decide) rfl ?_
      refine z_goto (pn := 17) dX7_isThing_13 (by decide) ?_
      exact z_ret (some (.int (zb true))) (Or.inr (Or.inl ⟨_, _, rfl, rfl, zb_nar _, dX7_isThing_17⟩)) zN200 ⟨_, rfl, h⟩
theorem dX7_isTelling_0 : decode cX7_isTelling 0 = .ok (.iload_n 1, 1) := by decide +kernel
theorem dX7_isTelling_1 : decode cX7_isTelling 1 = .ok (.ifCond .lt 15, 3) := by decide +kernel
theorem dX7_isTelling_4 : decode cX7_isTelling 4 = .ok (.iload_n 1, 1) := by decide +kernel
theorem dX7_isTelling_5 : decode cX7_isTelling 5 = .ok (.aload_n 0, 1) := by decide +kernel
theorem dX7_isTelling_6 : decode cX7_isTelling 6 = .ok (.getfield 200, 3) := by decide +kernel
theorem dX7_isTelling_9 : decode cX7_isTelling 9 = .ok (.if_icmp .ge 7, 3) := by decide +kernel
theorem dX7_isTelling_12 : decode cX7_isTelling 12 = .ok (.iconst 1, 1) := by decide +kernel
theorem dX7_isTelling_13 : decode cX7_isTelling 13 = .ok (.goto 4, 3) := by decide +kernel
theorem dX7_isTelling_16 : decode cX7_isTelling 16 = .ok (.iconst 0, 1) := by decide +kernel
theorem dX7_isTelling_17 : decode cX7_isTelling 17 = .ok (.ireturn, 1) := by decide +kernel
set_option maxHeartbeats 4000000 in
set_option maxRecDepth 100000 in
theorem t_X7_isTelling {l : Launch} {g : zG} {d : Nat} {s : zS} (hR : zRok s) {p0 : Int32} {K : Bool → zS → Prop} (h : (if p0 < 0 then K false s else (if (s.1 64 7) ≤ p0 then K false s else K true s))) : zc l g d M_X7_isTelling [.ref 64, .int p0] s (zKz K) := by
  refine zCall_of k_X7_isTelling (Nat.le_of_ble_eq_true rfl) (Nat.le_refl _) (fun _ => ?_)
  show zt l g d M_X7_isTelling 0 [.ref 64, .int p0] [] s (zKz K)
  refine z_iload_n (i := 1) dX7_isTelling_0 rfl rfl rfl ?_
  refine z_if_lt (pt := 16) dX7_isTelling_1 (by decide) rfl (fun c => ?_) (fun c => ?_)
  · have h := zit h c
    refine z_iconst (v := (0 : Int32)) dX7_isTelling_16 (by decide) rfl ?_
    exact z_ret (some (.int (zb false))) (Or.inr (Or.inl ⟨_, _, rfl, rfl, zb_nar _, dX7_isTelling_17⟩)) zN200 ⟨_, rfl, h⟩
  · have h := zif h c
    refine z_iload_n (i := 1) dX7_isTelling_4 rfl rfl rfl ?_
    refine z_aload_n (i := 0) dX7_isTelling_5 rfl rfl rfl ?_
    refine z_getI (x := s.1 64 7) rfl f_X7_200 i_64 rfl dX7_isTelling_6 rfl ?_
    refine z_icmp_ge (pt := 16) dX7_isTelling_9 (by decide) rfl (fun c => ?_) (fun c => ?_)
    · have h := zit h c
      refine z_iconst (v := (0 : Int32)) dX7_isTelling_16 (by decide) rfl ?_
      exact z_ret (some (.int (zb false))) (Or.inr (Or.inl ⟨_, _, rfl, rfl, zb_nar _, dX7_isTelling_17⟩)) zN200 ⟨_, rfl, h⟩
    · have h := zif h c
      refine z_iconst (v := (1 : Int32)) dX7_isTelling_12 (by decide) rfl ?_
      refine z_goto (pn := 17) dX7_isTelling_13 (by decide) ?_
      exact z_ret (some (.int (zb true))) (Or.inr (Or.inl ⟨_, _, rfl, rfl, zb_nar _, dX7_isTelling_17⟩)) zN200 ⟨_, rfl, h⟩
theorem dX7_divisorOf_0 : decode cX7_divisorOf 0 = .ok (.iload_n 0, 1) := by decide +kernel
theorem dX7_divisorOf_1 : decode cX7_divisorOf 1 = .ok (.tableswitch 42 1 5 #[35, 42, 42, 37, 40], 35) := by decide +kernel
theorem dX7_divisorOf_36 : decode cX7_divisorOf 36 = .ok (.iconst 4, 1) := by decide +kernel
theorem dX7_divisorOf_37 : decode cX7_divisorOf 37 = .ok (.ireturn, 1) := by decide +kernel
theorem dX7_divisorOf_38 : decode cX7_divisorOf 38 = .ok (.bipush 16, 2) := by decide +kernel
theorem dX7_divisorOf_40 : decode cX7_divisorOf 40 = .ok (.ireturn, 1) := by decide +kernel
theorem dX7_divisorOf_41 : decode cX7_divisorOf 41 = .ok (.iconst 1, 1) := by decide +kernel
theorem dX7_divisorOf_42 : decode cX7_divisorOf 42 = .ok (.ireturn, 1) := by decide +kernel
theorem dX7_divisorOf_43 : decode cX7_divisorOf 43 = .ok (.iconst 0, 1) := by decide +kernel
theorem dX7_divisorOf_44 : decode cX7_divisorOf 44 = .ok (.ireturn, 1) := by decide +kernel
set_option maxHeartbeats 4000000 in
set_option maxRecDepth 100000 in
theorem t_X7_divisorOf {l : Launch} {g : zG} {d : Nat} {s : zS} (hR : zRok s) {p0 : Int32} {K : Int32 → zS → Prop} (h : (if p0 = (1 : Int32) then K (4 : Int32) s else (if p0 = (2 : Int32) then K (0 : Int32) s else (if p0 = (3 : Int32) then K (0 : Int32) s else (if p0 = (4 : Int32) then K (16 : Int32) s else (if p0 = (5 : Int32) then K (1 : Int32) s else K (0 : Int32) s)))))) : zc l g d M_X7_divisorOf [.int p0] s (zKi K) := by
  refine zCall_of k_X7_divisorOf (Nat.le_of_ble_eq_true rfl) (Nat.le_refl _) (fun _ => ?_)
  show zt l g d M_X7_divisorOf 0 [.int p0] [] s (zKi K)
  refine z_iload_n (i := 0) dX7_divisorOf_0 rfl rfl rfl ?_
  by_cases c1 : p0 = (1 : Int32)
  · have h := zit h c1
    refine z_tableIn (pt := 36) dX7_divisorOf_1 (by rw [c1]; decide) (by rw [c1]; decide) (by rw [c1]; rfl) (by decide) ?_
    refine z_iconst (v := (4 : Int32)) dX7_divisorOf_36 (by decide) rfl ?_
    exact z_ret (some (.int (4 : Int32))) (Or.inr (Or.inl ⟨_, _, rfl, rfl, rfl, dX7_divisorOf_37⟩)) zN200 ⟨_, rfl, h⟩
  have h := zif h c1
  by_cases c2 : p0 = (2 : Int32)
  · have h := zit h c2
    refine z_tableIn (pt := 43) dX7_divisorOf_1 (by rw [c2]; decide) (by rw [c2]; decide) (by rw [c2]; rfl) (by decide) ?_
    refine z_iconst (v := (0 : Int32)) dX7_divisorOf_43 (by decide) rfl ?_
    exact z_ret (some (.int (0 : Int32))) (Or.inr (Or.inl ⟨_, _, rfl, rfl, rfl, dX7_divisorOf_44⟩)) zN200 ⟨_, rfl, h⟩
  have h := zif h c2
  by_cases c3 : p0 = (3 : Int32)
  · have h := zit h c3
    refine z_tableIn (pt := 43) dX7_divisorOf_1 (by rw [c3]; decide) (by rw [c3]; decide) (by rw [c3]; rfl) (by decide) ?_
    refine z_iconst (v := (0 : Int32)) dX7_divisorOf_43 (by decide) rfl ?_
    exact z_ret (some (.int (0 : Int32))) (Or.inr (Or.inl ⟨_, _, rfl, rfl, rfl, dX7_divisorOf_44⟩)) zN200 ⟨_, rfl, h⟩
  have h := zif h c3
  by_cases c4 : p0 = (4 : Int32)
  · have h := zit h c4
    refine z_tableIn (pt := 38) dX7_divisorOf_1 (by rw [c4]; decide) (by rw [c4]; decide) (by rw [c4]; rfl) (by decide) ?_
    refine z_bipush (v := (16 : Int32)) dX7_divisorOf_38 (by decide) rfl ?_
    exact z_ret (some (.int (16 : Int32))) (Or.inr (Or.inl ⟨_, _, rfl, rfl, rfl, dX7_divisorOf_40⟩)) zN200 ⟨_, rfl, h⟩
  have h := zif h c4
  by_cases c5 : p0 = (5 : Int32)
  · have h := zit h c5
    refine z_tableIn (pt := 41) dX7_divisorOf_1 (by rw [c5]; decide) (by rw [c5]; decide) (by rw [c5]; rfl) (by decide) ?_
    refine z_iconst (v := (1 : Int32)) dX7_divisorOf_41 (by decide) rfl ?_
    exact z_ret (some (.int (1 : Int32))) (Or.inr (Or.inl ⟨_, _, rfl, rfl, rfl, dX7_divisorOf_42⟩)) zN200 ⟨_, rfl, h⟩
  have h := zif h c5
  refine z_tableOut (pt := 43) dX7_divisorOf_1 (z_swout 1 5 (fun j hj => ?_)) (by decide) ?_
  · rcases (show j = 0 ∨ j = 1 ∨ j = 2 ∨ j = 3 ∨ j = 4 by omega) with rfl | rfl | rfl | rfl | rfl
    · exact c1
    · exact c2
    · exact c3
    · exact c4
    · exact c5
  · refine z_iconst (v := (0 : Int32)) dX7_divisorOf_43 (by decide) rfl ?_
    exact z_ret (some (.int (0 : Int32))) (Or.inr (Or.inl ⟨_, _, rfl, rfl, rfl, dX7_divisorOf_44⟩)) zN200 ⟨_, rfl, h⟩
theorem dX7_newThing_0 : decode cX7_newThing 0 = .ok (.aload_n 0, 1) := by decide +kernel
theorem dX7_newThing_1 : decode cX7_newThing 1 = .ok (.getfield 31, 3) := by decide +kernel
theorem dX7_newThing_4 : decode cX7_newThing 4 = .ok (.aload_n 0, 1) := by decide +kernel
theorem dX7_newThing_5 : decode cX7_newThing 5 = .ok (.getfield 103, 3) := by decide +kernel
theorem dX7_newThing_8 : decode cX7_newThing 8 = .ok (.aaload, 1) := by decide +kernel
theorem dX7_newThing_9 : decode cX7_newThing 9 = .ok (.astore 5, 2) := by decide +kernel
theorem dX7_newThing_11 : decode cX7_newThing 11 = .ok (.aload 5, 2) := by decide +kernel
theorem dX7_newThing_13 : decode cX7_newThing 13 = .ok (.iload_n 1, 1) := by decide +kernel
theorem dX7_newThing_14 : decode cX7_newThing 14 = .ok (.putfield 164, 3) := by decide +kernel
theorem dX7_newThing_17 : decode cX7_newThing 17 = .ok (.aload 5, 2) := by decide +kernel
theorem dX7_newThing_19 : decode cX7_newThing 19 = .ok (.iload_n 2, 1) := by decide +kernel
theorem dX7_newThing_20 : decode cX7_newThing 20 = .ok (.sipush 1000, 3) := by decide +kernel
theorem dX7_newThing_23 : decode cX7_newThing 23 = .ok (.idiv, 1) := by decide +kernel
theorem dX7_newThing_24 : decode cX7_newThing 24 = .ok (.putfield 273, 3) := by decide +kernel
theorem dX7_newThing_27 : decode cX7_newThing 27 = .ok (.aload 5, 2) := by decide +kernel
theorem dX7_newThing_29 : decode cX7_newThing 29 = .ok (.iload_n 2, 1) := by decide +kernel
theorem dX7_newThing_30 : decode cX7_newThing 30 = .ok (.sipush 1000, 3) := by decide +kernel
theorem dX7_newThing_33 : decode cX7_newThing 33 = .ok (.irem, 1) := by decide +kernel
theorem dX7_newThing_34 : decode cX7_newThing 34 = .ok (.putfield 274, 3) := by decide +kernel
theorem dX7_newThing_37 : decode cX7_newThing 37 = .ok (.aload 5, 2) := by decide +kernel
theorem dX7_newThing_39 : decode cX7_newThing 39 = .ok (.iload_n 3, 1) := by decide +kernel
theorem dX7_newThing_40 : decode cX7_newThing 40 = .ok (.bipush 64, 2) := by decide +kernel
theorem dX7_newThing_42 : decode cX7_newThing 42 = .ok (.idiv, 1) := by decide +kernel
theorem dX7_newThing_43 : decode cX7_newThing 43 = .ok (.putfield 348, 3) := by decide +kernel
theorem dX7_newThing_46 : decode cX7_newThing 46 = .ok (.aload 5, 2) := by decide +kernel
theorem dX7_newThing_48 : decode cX7_newThing 48 = .ok (.iload_n 3, 1) := by decide +kernel
theorem dX7_newThing_49 : decode cX7_newThing 49 = .ok (.bipush 64, 2) := by decide +kernel
theorem dX7_newThing_51 : decode cX7_newThing 51 = .ok (.irem, 1) := by decide +kernel
theorem dX7_newThing_52 : decode cX7_newThing 52 = .ok (.putfield 351, 3) := by decide +kernel
theorem dX7_newThing_55 : decode cX7_newThing 55 = .ok (.aload 5, 2) := by decide +kernel
theorem dX7_newThing_57 : decode cX7_newThing 57 = .ok (.iload 4, 2) := by decide +kernel
theorem dX7_newThing_59 : decode cX7_newThing 59 = .ok (.putfield 354, 3) := by decide +kernel
theorem dX7_newThing_62 : decode cX7_newThing 62 = .ok (.aload_n 0, 1) := by decide +kernel
theorem dX7_newThing_63 : decode cX7_newThing 63 = .ok (.dup, 1) := by decide +kernel
theorem dX7_newThing_64 : decode cX7_newThing 64 = .ok (.getfield 103, 3) := by decide +kernel
theorem dX7_newThing_67 : decode cX7_newThing 67 = .ok (.iconst 1, 1) := by decide +kernel
theorem dX7_newThing_68 : decode cX7_newThing 68 = .ok (.iadd, 1) := by decide +kernel
theorem dX7_newThing_69 : decode cX7_newThing 69 = .ok (.putfield 103, 3) := by decide +kernel
theorem dX7_newThing_72 : decode cX7_newThing 72 = .ok (.aload_n 0, 1) := by decide +kernel
theorem dX7_newThing_73 : decode cX7_newThing 73 = .ok (.dup, 1) := by decide +kernel
theorem dX7_newThing_74 : decode cX7_newThing 74 = .ok (.getfield 48, 3) := by decide +kernel
theorem dX7_newThing_77 : decode cX7_newThing 77 = .ok (.iconst 1, 1) := by decide +kernel
theorem dX7_newThing_78 : decode cX7_newThing 78 = .ok (.iadd, 1) := by decide +kernel
theorem dX7_newThing_79 : decode cX7_newThing 79 = .ok (.putfield 48, 3) := by decide +kernel
theorem dX7_newThing_82 : decode cX7_newThing 82 = .ok (.aload 5, 2) := by decide +kernel
theorem dX7_newThing_84 : decode cX7_newThing 84 = .ok (.areturn, 1) := by decide +kernel
set_option maxHeartbeats 4000000 in
set_option maxRecDepth 100000 in
theorem t_X7_newThing {l : Launch} {g : zG} {d : Nat} {s : zS} (hR : zRok s) {p0 : Int32} {p1 : Int32} {p2 : Int32} {p3 : Int32} {K : Nat → zS → Prop} (h : (vp_in (s.1 64 5) 12 ∧ K (92 + (s.1 64 5).toNatClampNeg) (zI (zI (zI (zI (zI (zI (zI (zI s (92 + (s.1 64 5).toNatClampNeg) 0 p0) (92 + (s.1 64 5).toNatClampNeg) 1 (p1 / (1000 : Int32))) (92 + (s.1 64 5).toNatClampNeg) 2 (p1 % (1000 : Int32))) (92 + (s.1 64 5).toNatClampNeg) 3 (p2 / (64 : Int32))) (92 + (s.1 64 5).toNatClampNeg) 4 (p2 % (64 : Int32))) (92 + (s.1 64 5).toNatClampNeg) 5 p3) 64 5 ((s.1 64 5) + (1 : Int32))) 64 10 ((s.1 64 10) + (1 : Int32))))) : zc l g d M_X7_newThing [.ref 64, .int p0, .int p1, .int p2, .int p3] s (zKr K) := by
  refine zCall_of k_X7_newThing (Nat.le_of_ble_eq_true rfl) (Nat.le_refl _) (fun _ => ?_)
  show zt l g d M_X7_newThing 0 [.ref 64, .int p0, .int p1, .int p2, .int p3, zJ] [] s (zKr K)
  refine z_aload_n (i := 0) dX7_newThing_0 rfl rfl rfl ?_
  refine z_getR (q := 70) f_X7_31 i_64 rfl (r_64_4 hR) (by decide) dX7_newThing_1 rfl ?_
  refine z_aload_n (i := 0) dX7_newThing_4 rfl rfl rfl ?_
  refine z_getI (x := s.1 64 5) rfl f_X7_103 i_64 rfl dX7_newThing_5 rfl ?_
  obtain ⟨a1, h⟩ := h
  have wa1 := vin a1
  refine z_aald (q := 92 + (s.1 64 5).toNatClampNeg) (by decide) a_70 a1 (r_70 hR a1) (by omega) dX7_newThing_8 rfl ?_
  refine z_astore dX7_newThing_9 (by decide) (zokd rfl) rfl ?_
  show zt l g d M_X7_newThing 11 [.ref 64, .int p0, .int p1, .int p2, .int p3, .ref (92 + (s.1 64 5).toNatClampNeg)] [] s _
  refine z_aload dX7_newThing_11 rfl rfl ?_
  refine z_iload_n (i := 1) dX7_newThing_13 rfl rfl rfl ?_
  refine z_putI f_X7_164 (i_Th (p_70 a1)) rfl (Or.inl rfl) rfl rfl dX7_newThing_14 rfl ?_
  refine z_aload dX7_newThing_17 rfl rfl ?_
  refine z_iload_n (i := 2) dX7_newThing_19 rfl rfl rfl ?_
  refine z_sipush (v := (1000 : Int32)) dX7_newThing_20 (by decide) rfl ?_
  refine z_idiv dX7_newThing_23 (by decide) rfl ?_
  refine z_putI f_X7_273 (i_Th (p_70 a1)) rfl (Or.inl rfl) rfl rfl dX7_newThing_24 rfl ?_
  refine z_aload dX7_newThing_27 rfl rfl ?_
  refine z_iload_n (i := 2) dX7_newThing_29 rfl rfl rfl ?_
  refine z_sipush (v := (1000 : Int32)) dX7_newThing_30 (by decide) rfl ?_
  refine z_irem dX7_newThing_33 (by decide) rfl ?_
  refine z_putI f_X7_274 (i_Th (p_70 a1)) rfl (Or.inl rfl) rfl rfl dX7_newThing_34 rfl ?_
  refine z_aload dX7_newThing_37 rfl rfl ?_
  refine z_iload_n (i := 3) dX7_newThing_39 rfl rfl rfl ?_
  refine z_bipush (v := (64 : Int32)) dX7_newThing_40 (by decide) rfl ?_
  refine z_idiv dX7_newThing_42 (by decide) rfl ?_
  refine z_putI f_X7_348 (i_Th (p_70 a1)) rfl (Or.inl rfl) rfl rfl dX7_newThing_43 rfl ?_
  refine z_aload dX7_newThing_46 rfl rfl ?_
  refine z_iload_n (i := 3) dX7_newThing_48 rfl rfl rfl ?_
  refine z_bipush (v := (64 : Int32)) dX7_newThing_49 (by decide) rfl ?_
  refine z_irem dX7_newThing_51 (by decide) rfl ?_
  refine z_putI f_X7_351 (i_Th (p_70 a1)) rfl (Or.inl rfl) rfl rfl dX7_newThing_52 rfl ?_
  refine z_aload dX7_newThing_55 rfl rfl ?_
  refine z_iload dX7_newThing_57 rfl rfl ?_
  refine z_putI f_X7_354 (i_Th (p_70 a1)) rfl (Or.inl rfl) rfl rfl dX7_newThing_59 rfl ?_
  refine z_aload_n (i := 0) dX7_newThing_62 rfl rfl rfl ?_
  refine z_dup dX7_newThing_63 rfl rfl ?_
  refine z_getI (x := s.1 64 5) ((zI_o (by omega)).trans ((zI_k (by decide)).trans ((zI_k (by decide)).trans ((zI_k (by decide)).trans ((zI_k (by decide)).trans (zI_k (by decide))))))) f_X7_103 i_64 rfl dX7_newThing_64 rfl ?_
  refine z_iconst (v := (1 : Int32)) dX7_newThing_67 (by decide) rfl ?_
  refine z_iadd dX7_newThing_68 rfl ?_
  refine z_putI f_X7_103 i_64 rfl (Or.inl rfl) rfl rfl dX7_newThing_69 rfl ?_
  refine z_aload_n (i := 0) dX7_newThing_72 rfl rfl rfl ?_
  refine z_dup dX7_newThing_73 rfl rfl ?_
  refine z_getI (x := s.1 64 10) ((zI_k (by decide)).trans ((zI_k (by decide)).trans ((zI_k (by decide)).trans ((zI_k (by decide)).trans ((zI_k (by decide)).trans ((zI_k (by decide)).trans (zI_k (by decide)))))))) f_X7_48 i_64 rfl dX7_newThing_74 rfl ?_
  refine z_iconst (v := (1 : Int32)) dX7_newThing_77 (by decide) rfl ?_
  refine z_iadd dX7_newThing_78 rfl ?_
  refine z_putI f_X7_48 i_64 rfl (Or.inl rfl) rfl rfl dX7_newThing_79 rfl ?_
  refine z_aload dX7_newThing_82 rfl rfl ?_
  exact z_ret (some (.ref (92 + (s.1 64 5).toNatClampNeg))) (Or.inr (Or.inr (Or.inl ⟨_, _, rfl, rfl, dX7_newThing_84⟩))) zN200 ⟨_, rfl, h⟩
theorem dX7_fittingOf_0 : decode cX7_fittingOf 0 = .ok (.aload_n 1, 1) := by decide +kernel
theorem dX7_fittingOf_1 : decode cX7_fittingOf 1 = .ok (.getfield 230, 3) := by decide +kernel
theorem dX7_fittingOf_4 : decode cX7_fittingOf 4 = .ok (.aload_n 0, 1) := by decide +kernel
theorem dX7_fittingOf_5 : decode cX7_fittingOf 5 = .ok (.getfield 48, 3) := by decide +kernel
theorem dX7_fittingOf_8 : decode cX7_fittingOf 8 = .ok (.if_icmp .eq 54, 3) := by decide +kernel
theorem dX7_fittingOf_11 : decode cX7_fittingOf 11 = .ok (.iconst 0, 1) := by decide +kernel
theorem dX7_fittingOf_12 : decode cX7_fittingOf 12 = .ok (.istore_n 2, 1) := by decide +kernel
theorem dX7_fittingOf_13 : decode cX7_fittingOf 13 = .ok (.iconst 0, 1) := by decide +kernel
theorem dX7_fittingOf_14 : decode cX7_fittingOf 14 = .ok (.istore_n 3, 1) := by decide +kernel
theorem dX7_fittingOf_15 : decode cX7_fittingOf 15 = .ok (.iload_n 3, 1) := by decide +kernel
theorem dX7_fittingOf_16 : decode cX7_fittingOf 16 = .ok (.aload_n 0, 1) := by decide +kernel
theorem dX7_fittingOf_17 : decode cX7_fittingOf 17 = .ok (.getfield 103, 3) := by decide +kernel
theorem dX7_fittingOf_20 : decode cX7_fittingOf 20 = .ok (.if_icmp .ge 29, 3) := by decide +kernel
theorem dX7_fittingOf_23 : decode cX7_fittingOf 23 = .ok (.aload_n 0, 1) := by decide +kernel
theorem dX7_fittingOf_24 : decode cX7_fittingOf 24 = .ok (.aload_n 1, 1) := by decide +kernel
theorem dX7_fittingOf_25 : decode cX7_fittingOf 25 = .ok (.aload_n 0, 1) := by decide +kernel
theorem dX7_fittingOf_26 : decode cX7_fittingOf 26 = .ok (.getfield 31, 3) := by decide +kernel
theorem dX7_fittingOf_29 : decode cX7_fittingOf 29 = .ok (.iload_n 3, 1) := by decide +kernel
theorem dX7_fittingOf_30 : decode cX7_fittingOf 30 = .ok (.aaload, 1) := by decide +kernel
theorem dX7_fittingOf_31 : decode cX7_fittingOf 31 = .ok (.invokevirtual 357, 3) := by decide +kernel
theorem dX7_fittingOf_34 : decode cX7_fittingOf 34 = .ok (.ifCond .eq 9, 3) := by decide +kernel
theorem dX7_fittingOf_37 : decode cX7_fittingOf 37 = .ok (.iload_n 2, 1) := by decide +kernel
theorem dX7_fittingOf_38 : decode cX7_fittingOf 38 = .ok (.iconst 1, 1) := by decide +kernel
theorem dX7_fittingOf_39 : decode cX7_fittingOf 39 = .ok (.iload_n 3, 1) := by decide +kernel
theorem dX7_fittingOf_40 : decode cX7_fittingOf 40 = .ok (.ishl, 1) := by decide +kernel
theorem dX7_fittingOf_41 : decode cX7_fittingOf 41 = .ok (.ior, 1) := by decide +kernel
theorem dX7_fittingOf_42 : decode cX7_fittingOf 42 = .ok (.istore_n 2, 1) := by decide +kernel
theorem dX7_fittingOf_43 : decode cX7_fittingOf 43 = .ok (.iinc 3 1, 3) := by decide +kernel
theorem dX7_fittingOf_46 : decode cX7_fittingOf 46 = .ok (.goto (-31), 3) := by decide +kernel
theorem dX7_fittingOf_49 : decode cX7_fittingOf 49 = .ok (.aload_n 1, 1) := by decide +kernel
theorem dX7_fittingOf_50 : decode cX7_fittingOf 50 = .ok (.iload_n 2, 1) := by decide +kernel
theorem dX7_fittingOf_51 : decode cX7_fittingOf 51 = .ok (.putfield 361, 3) := by decide +kernel
theorem dX7_fittingOf_54 : decode cX7_fittingOf 54 = .ok (.aload_n 1, 1) := by decide +kernel
theorem dX7_fittingOf_55 : decode cX7_fittingOf 55 = .ok (.aload_n 0, 1) := by decide +kernel
theorem dX7_fittingOf_56 : decode cX7_fittingOf 56 = .ok (.getfield 48, 3) := by decide +kernel
theorem dX7_fittingOf_59 : decode cX7_fittingOf 59 = .ok (.putfield 230, 3) := by decide +kernel
theorem dX7_fittingOf_62 : decode cX7_fittingOf 62 = .ok (.aload_n 1, 1) := by decide +kernel
theorem dX7_fittingOf_63 : decode cX7_fittingOf 63 = .ok (.getfield 361, 3) := by decide +kernel
theorem dX7_fittingOf_66 : decode cX7_fittingOf 66 = .ok (.ireturn, 1) := by decide +kernel
set_option maxHeartbeats 4000000 in
set_option maxRecDepth 100000 in
theorem t_X7_fittingOf {l : Launch} {g : zG} {d : Nat} {s : zS} (hR : zRok s) {p0 : Nat} (hp0 : 104 ≤ p0 ∧ p0 < 164) {K : Int32 → zS → Prop} (h : (if (s.1 p0 10) = (s.1 64 10) then K (s.1 p0 9) s else zt l g (d + 1) M_X7_fittingOf 15 [.ref 64, .ref p0, .int (0 : Int32), .int (0 : Int32)] [] s (zKi K))) : zc l g (d + 1) M_X7_fittingOf [.ref 64, .ref p0] s (zKi K) := by
  refine zCall_of k_X7_fittingOf (Nat.le_of_ble_eq_true rfl) (Nat.le_refl _) (fun _ => ?_)
  show zt l g (d + 1) M_X7_fittingOf 0 [.ref 64, .ref p0, zJ, zJ] [] s (zKi K)
  refine z_aload_n (i := 1) dX7_fittingOf_0 rfl rfl rfl ?_
  refine z_getI (x := s.1 p0 10) rfl f_X7_230 (i_Te hp0) rfl dX7_fittingOf_1 rfl ?_
  refine z_aload_n (i := 0) dX7_fittingOf_4 rfl rfl rfl ?_
  refine z_getI (x := s.1 64 10) rfl f_X7_48 i_64 rfl dX7_fittingOf_5 rfl ?_
  refine z_icmp_eq (pt := 62) dX7_fittingOf_8 (by decide) rfl (fun c => ?_) (fun c => ?_)
  · have h := zit h c
    refine z_aload_n (i := 1) dX7_fittingOf_62 rfl rfl rfl ?_
    refine z_getI (x := s.1 p0 9) rfl f_X7_361 (i_Te hp0) rfl dX7_fittingOf_63 rfl ?_
    exact z_ret (some (.int (s.1 p0 9))) (Or.inr (Or.inl ⟨_, _, rfl, rfl, rfl, dX7_fittingOf_66⟩)) zN200 ⟨_, rfl, h⟩
  · have h := zif h c
    refine z_iconst (v := (0 : Int32)) dX7_fittingOf_11 (by decide) rfl ?_
    refine z_istore_n (i := 2) dX7_fittingOf_12 rfl (by decide) (zokd rfl) rfl ?_
    show zt l g (d + 1) M_X7_fittingOf 13 [.ref 64, .ref p0, .int (0 : Int32), zJ] [] s _
    refine z_iconst (v := (0 : Int32)) dX7_fittingOf_13 (by decide) rfl ?_
    refine z_istore_n (i := 3) dX7_fittingOf_14 rfl (by decide) (zokd rfl) rfl ?_
    show zt l g (d + 1) M_X7_fittingOf 15 [.ref 64, .ref p0, .int (0 : Int32), .int (0 : Int32)] [] s _
    exact h
set_option maxHeartbeats 4000000 in
set_option maxRecDepth 100000 in
theorem t_X7_fittingOf_15 {l : Launch} {g : zG} {d : Nat} {s : zS} (hR : zRok s) {x1 : Nat} (hx1 : 104 ≤ x1 ∧ x1 < 164) {x2 : Int32} {x3 : Int32} {K : Int32 → zS → Prop} (h : (if (s.1 64 5) ≤ x3 then K x2 (zI (zI s x1 9 x2) x1 10 (s.1 64 10)) else (vp_in x3 12 ∧ (zc l g d M_X7_isLike [.ref 64, .ref x1, .ref (92 + x3.toNatClampNeg)] s (zKz (fun b3 s2 => s2.2.2.1 = s.2.2.1 ∧ (if b3 = true then (∀ v4 : Int32, v4 = x2 ||| ((1 : Int32) <<< (x3 &&& 31)) → zt l g (d + 1) M_X7_fittingOf 15 [.ref 64, .ref x1, .int v4, .int (x3 + (1 : Int32))] [] s2 (zKi K)) else zt l g (d + 1) M_X7_fittingOf 15 [.ref 64, .ref x1, .int x2, .int (x3 + (1 : Int32))] [] s2 (zKi K)))))))) : zt l g (d + 1) M_X7_fittingOf 15 [.ref 64, .ref x1, .int x2, .int x3] [] s (zKi K) := by
  refine z_iload_n (i := 3) dX7_fittingOf_15 rfl rfl rfl ?_
  refine z_aload_n (i := 0) dX7_fittingOf_16 rfl rfl rfl ?_
  refine z_getI (x := s.1 64 5) rfl f_X7_103 i_64 rfl dX7_fittingOf_17 rfl ?_
  refine z_icmp_ge (pt := 49) dX7_fittingOf_20 (by decide) rfl (fun c => ?_) (fun c => ?_)
  · have h := zit h c
    refine z_aload_n (i := 1) dX7_fittingOf_49 rfl rfl rfl ?_
    refine z_iload_n (i := 2) dX7_fittingOf_50 rfl rfl rfl ?_
    refine z_putI f_X7_361 (i_Te hx1) rfl (Or.inl rfl) rfl rfl dX7_fittingOf_51 rfl ?_
    refine z_aload_n (i := 1) dX7_fittingOf_54 rfl rfl rfl ?_
    refine z_aload_n (i := 0) dX7_fittingOf_55 rfl rfl rfl ?_
    refine z_getI (x := s.1 64 10) (zI_k (by decide)) f_X7_48 i_64 rfl dX7_fittingOf_56 rfl ?_
    refine z_putI f_X7_230 (i_Te hx1) rfl (Or.inl rfl) rfl rfl dX7_fittingOf_59 rfl ?_
    refine z_aload_n (i := 1) dX7_fittingOf_62 rfl rfl rfl ?_
    refine z_getI (x := x2) ((zI_k (by decide)).trans zI_eq) f_X7_361 (i_Te hx1) rfl dX7_fittingOf_63 rfl ?_
    exact z_ret (some (.int x2)) (Or.inr (Or.inl ⟨_, _, rfl, rfl, rfl, dX7_fittingOf_66⟩)) zN200 ⟨_, rfl, h⟩
  · have h := zif h c
    refine z_aload_n (i := 0) dX7_fittingOf_23 rfl rfl rfl ?_
    refine z_aload_n (i := 1) dX7_fittingOf_24 rfl rfl rfl ?_
    refine z_aload_n (i := 0) dX7_fittingOf_25 rfl rfl rfl ?_
    refine z_getR (q := 70) f_X7_31 i_64 rfl (r_64_4 hR) (by decide) dX7_fittingOf_26 rfl ?_
    refine z_iload_n (i := 3) dX7_fittingOf_29 rfl rfl rfl ?_
    obtain ⟨a1, h⟩ := h
    have wa1 := vin a1
    refine z_aald (q := 92 + x3.toNatClampNeg) (by decide) a_70 a1 (r_70 hR a1) (by omega) dX7_fittingOf_30 rfl ?_
    refine z_callV k_X7_isLike m_X7_357 (zRec_of i_64) rfl h rfl (Nat.le_of_ble_eq_true rfl) dX7_fittingOf_31 zy200 rfl ?_
    rintro v s2 ⟨b3, rfl, hRs2, h⟩
    show zt l g (d + 1) M_X7_fittingOf 34 [.ref 64, .ref x1, .int x2, .int x3] [.int (zb b3)] s2 _
    refine z_ifb_eq (pt := 43) dX7_fittingOf_34 (by decide) rfl (fun c => ?_) (fun c => ?_)
    · have h := zif h (by rw [c]; exact Bool.false_ne_true)
      refine z_iinc (v := x3 + (1 : Int32)) dX7_fittingOf_43 rfl rfl (by decide) (zokd rfl) rfl ?_
      show zt l g (d + 1) M_X7_fittingOf 46 [.ref 64, .ref x1, .int x2, .int (x3 + (1 : Int32))] [] s2 _
      refine z_goto (pn := 15) dX7_fittingOf_46 (by decide) ?_
      exact h
    · have h := zit h c
      refine z_iload_n (i := 2) dX7_fittingOf_37 rfl rfl rfl ?_
      refine z_iconst (v := (1 : Int32)) dX7_fittingOf_38 (by decide) rfl ?_
      refine z_iload_n (i := 3) dX7_fittingOf_39 rfl rfl rfl ?_
      refine z_ishl dX7_fittingOf_40 rfl ?_
      refine z_ior dX7_fittingOf_41 rfl ?_
      refine z_istore_n (i := 2) dX7_fittingOf_42 rfl (by decide) (zokd rfl) rfl ?_
      obtain ⟨v4, ev4⟩ : ∃ x : Int32, x = x2 ||| ((1 : Int32) <<< (x3 &&& 31)) := ⟨_, rfl⟩
      rw [← ev4]
      have h := h v4 ev4
      show zt l g (d + 1) M_X7_fittingOf 43 [.ref 64, .ref x1, .int v4, .int x3] [] s2 _
      refine z_iinc (v := x3 + (1 : Int32)) dX7_fittingOf_43 rfl rfl (by decide) (zokd rfl) rfl ?_
      show zt l g (d + 1) M_X7_fittingOf 46 [.ref 64, .ref x1, .int v4, .int (x3 + (1 : Int32))] [] s2 _
      refine z_goto (pn := 15) dX7_fittingOf_46 (by decide) ?_
      exact h
theorem dX7_isLike_0 : decode cX7_isLike 0 = .ok (.aload_n 0, 1) := by decide +kernel
theorem dX7_isLike_1 : decode cX7_isLike 1 = .ok (.getfield 25, 3) := by decide +kernel
theorem dX7_isLike_4 : decode cX7_isLike 4 = .ok (.aload_n 1, 1) := by decide +kernel
theorem dX7_isLike_5 : decode cX7_isLike 5 = .ok (.getfield 203, 3) := by decide +kernel
theorem dX7_isLike_8 : decode cX7_isLike 8 = .ok (.iaload, 1) := by decide +kernel
theorem dX7_isLike_9 : decode cX7_isLike 9 = .ok (.istore_n 3, 1) := by decide +kernel
theorem dX7_isLike_10 : decode cX7_isLike 10 = .ok (.aload_n 0, 1) := by decide +kernel
theorem dX7_isLike_11 : decode cX7_isLike 11 = .ok (.getfield 21, 3) := by decide +kernel
theorem dX7_isLike_14 : decode cX7_isLike 14 = .ok (.aload_n 2, 1) := by decide +kernel
theorem dX7_isLike_15 : decode cX7_isLike 15 = .ok (.iload_n 3, 1) := by decide +kernel
theorem dX7_isLike_16 : decode cX7_isLike 16 = .ok (.aload_n 1, 1) := by decide +kernel
theorem dX7_isLike_17 : decode cX7_isLike 17 = .ok (.getfield 206, 3) := by decide +kernel
theorem dX7_isLike_20 : decode cX7_isLike 20 = .ok (.invokevirtual 184, 3) := by decide +kernel
theorem dX7_isLike_23 : decode cX7_isLike 23 = .ok (.ifCond .eq 75, 3) := by decide +kernel
theorem dX7_isLike_26 : decode cX7_isLike 26 = .ok (.aload_n 0, 1) := by decide +kernel
theorem dX7_isLike_27 : decode cX7_isLike 27 = .ok (.aload_n 1, 1) := by decide +kernel
theorem dX7_isLike_28 : decode cX7_isLike 28 = .ok (.getfield 212, 3) := by decide +kernel
theorem dX7_isLike_31 : decode cX7_isLike 31 = .ok (.aload_n 1, 1) := by decide +kernel
theorem dX7_isLike_32 : decode cX7_isLike 32 = .ok (.getfield 215, 3) := by decide +kernel
theorem dX7_isLike_35 : decode cX7_isLike 35 = .ok (.invokevirtual 364, 3) := by decide +kernel
theorem dX7_isLike_38 : decode cX7_isLike 38 = .ok (.ifCond .eq 60, 3) := by decide +kernel
theorem dX7_isLike_41 : decode cX7_isLike 41 = .ok (.aload_n 0, 1) := by decide +kernel
theorem dX7_isLike_42 : decode cX7_isLike 42 = .ok (.getfield 21, 3) := by decide +kernel
theorem dX7_isLike_45 : decode cX7_isLike 45 = .ok (.invokevirtual 188, 3) := by decide +kernel
theorem dX7_isLike_48 : decode cX7_isLike 48 = .ok (.iconst (-1), 1) := by decide +kernel
theorem dX7_isLike_49 : decode cX7_isLike 49 = .ok (.if_icmp .ne 49, 3) := by decide +kernel
theorem dX7_isLike_52 : decode cX7_isLike 52 = .ok (.aload_n 0, 1) := by decide +kernel
theorem dX7_isLike_53 : decode cX7_isLike 53 = .ok (.getfield 21, 3) := by decide +kernel
theorem dX7_isLike_56 : decode cX7_isLike 56 = .ok (.aload_n 2, 1) := by decide +kernel
theorem dX7_isLike_57 : decode cX7_isLike 57 = .ok (.iload_n 3, 1) := by decide +kernel
theorem dX7_isLike_58 : decode cX7_isLike 58 = .ok (.aload_n 1, 1) := by decide +kernel
theorem dX7_isLike_59 : decode cX7_isLike 59 = .ok (.getfield 209, 3) := by decide +kernel
theorem dX7_isLike_62 : decode cX7_isLike 62 = .ok (.invokevirtual 184, 3) := by decide +kernel
theorem dX7_isLike_65 : decode cX7_isLike 65 = .ok (.ifCond .eq 33, 3) := by decide +kernel
theorem dX7_isLike_68 : decode cX7_isLike 68 = .ok (.aload_n 0, 1) := by decide +kernel
theorem dX7_isLike_69 : decode cX7_isLike 69 = .ok (.aload_n 1, 1) := by decide +kernel
theorem dX7_isLike_70 : decode cX7_isLike 70 = .ok (.getfield 218, 3) := by decide +kernel
theorem dX7_isLike_73 : decode cX7_isLike 73 = .ok (.aload_n 1, 1) := by decide +kernel
theorem dX7_isLike_74 : decode cX7_isLike 74 = .ok (.getfield 221, 3) := by decide +kernel
theorem dX7_isLike_77 : decode cX7_isLike 77 = .ok (.invokevirtual 364, 3) := by decide +kernel
theorem dX7_isLike_80 : decode cX7_isLike 80 = .ok (.ifCond .eq 18, 3) := by decide +kernel
theorem dX7_isLike_83 : decode cX7_isLike 83 = .ok (.aload_n 0, 1) := by decide +kernel
theorem dX7_isLike_84 : decode cX7_isLike 84 = .ok (.getfield 21, 3) := by decide +kernel
theorem dX7_isLike_87 : decode cX7_isLike 87 = .ok (.invokevirtual 188, 3) := by decide +kernel
theorem dX7_isLike_90 : decode cX7_isLike 90 = .ok (.iconst (-1), 1) := by decide +kernel
theorem dX7_isLike_91 : decode cX7_isLike 91 = .ok (.if_icmp .ne 7, 3) := by decide +kernel
theorem dX7_isLike_94 : decode cX7_isLike 94 = .ok (.iconst 1, 1) := by decide +kernel
theorem dX7_isLike_95 : decode cX7_isLike 95 = .ok (.goto 4, 3) := by decide +kernel
theorem dX7_isLike_98 : decode cX7_isLike 98 = .ok (.iconst 0, 1) := by decide +kernel
theorem dX7_isLike_99 : decode cX7_isLike 99 = .ok (.ireturn, 1) := by decide +kernel
set_option maxHeartbeats 4000000 in
set_option maxRecDepth 100000 in
theorem t_X7_isLike {l : Launch} {g : zG} {d : Nat} {s : zS} (hR : zRok s) {p0 : Nat} (hp0 : 104 ≤ p0 ∧ p0 < 164) {p1 : Nat} (hp1 : 92 ≤ p1 ∧ p1 < 104) {K : Bool → zS → Prop} (h : (vp_in (s.1 p0 0) 20 ∧ (∀ v2 : Int32, v2 = s.1 69 ((s.1 p0 0).toNatClampNeg) → (zc l g d M_X4_look [.ref 68, .ref p1, .int v2, .int (s.1 p0 1)] s (zKz (fun b4 s3 => s3.2.2.1 = s.2.2.1 ∧ (if b4 = true then (zc l g d M_X7_isNear [.ref 64, .int (s3.1 p0 3), .int (s3.1 p0 4)] s3 (zKz (fun b6 s5 => s5.2.2.1 = s3.2.2.1 ∧ (if b6 = true then (zc l g d M_X4_hidingHill [.ref 68] s5 (zKi (fun r8 s7 => s7.2.2.1 = s5.2.2.1 ∧ (if r8 = (-1 : Int32) then (zc l g d M_X4_look [.ref 68, .ref p1, .int v2, .int (s7.1 p0 2)] s7 (zKz (fun b10 s9 => s9.2.2.1 = s7.2.2.1 ∧ (if b10 = true then (zc l g d M_X7_isNear [.ref 64, .int (s9.1 p0 5), .int (s9.1 p0 6)] s9 (zKz (fun b12 s11 => s11.2.2.1 = s9.2.2.1 ∧ (if b12 = true then (zc l g d M_X4_hidingHill [.ref 68] s11 (zKi (fun r14 s13 => s13.2.2.1 = s11.2.2.1 ∧ (if r14 = (-1 : Int32) then K true s13 else K false s13)))) else K false s11)))) else K false s9)))) else K false s7)))) else K false s5)))) else K false s3))))))) : zc l g (d + 1) M_X7_isLike [.ref 64, .ref p0, .ref p1] s (zKz K) := by
  refine zCall_of k_X7_isLike (Nat.le_of_ble_eq_true rfl) (Nat.le_refl _) (fun _ => ?_)
  show zt l g (d + 1) M_X7_isLike 0 [.ref 64, .ref p0, .ref p1, zJ] [] s (zKz K)
  refine z_aload_n (i := 0) dX7_isLike_0 rfl rfl rfl ?_
  refine z_getR (q := 69) f_X7_25 i_64 rfl (r_64_2 hR) (by decide) dX7_isLike_1 rfl ?_
  refine z_aload_n (i := 1) dX7_isLike_4 rfl rfl rfl ?_
  refine z_getI (x := s.1 p0 0) rfl f_X7_203 (i_Te hp0) rfl dX7_isLike_5 rfl ?_
  obtain ⟨a1, h⟩ := h
  have wa1 := vin a1
  refine z_iald (x := s.1 69 ((s.1 p0 0).toNatClampNeg)) rfl a_69 a1 dX7_isLike_8 rfl ?_
  refine z_istore_n (i := 3) dX7_isLike_9 rfl (by decide) (zokd rfl) rfl ?_
  obtain ⟨v2, ev2⟩ : ∃ x : Int32, x = s.1 69 ((s.1 p0 0).toNatClampNeg) := ⟨_, rfl⟩
  rw [← ev2]
  have h := h v2 ev2
  show zt l g (d + 1) M_X7_isLike 10 [.ref 64, .ref p0, .ref p1, .int v2] [] s _
  refine z_aload_n (i := 0) dX7_isLike_10 rfl rfl rfl ?_
  refine z_getR (q := 68) f_X7_21 i_64 rfl (r_64_1 hR) (by decide) dX7_isLike_11 rfl ?_
  refine z_aload_n (i := 2) dX7_isLike_14 rfl rfl rfl ?_
  refine z_iload_n (i := 3) dX7_isLike_15 rfl rfl rfl ?_
  refine z_aload_n (i := 1) dX7_isLike_16 rfl rfl rfl ?_
  refine z_getI (x := s.1 p0 1) rfl f_X7_206 (i_Te hp0) rfl dX7_isLike_17 rfl ?_
  refine z_callV k_X4_look m_X7_184 (zRec_of i_68) rfl h rfl (Nat.le_of_ble_eq_true rfl) dX7_isLike_20 zy200 rfl ?_
  rintro v s3 ⟨b4, rfl, hRs3, h⟩
  show zt l g (d + 1) M_X7_isLike 23 [.ref 64, .ref p0, .ref p1, .int v2] [.int (zb b4)] s3 _
  refine z_ifb_eq (pt := 98) dX7_isLike_23 (by decide) rfl (fun c => ?_) (fun c => ?_)
  · have h := zif h (by rw [c]; exact Bool.false_ne_true)
    refine z_iconst (v := (0 : Int32)) dX7_isLike_98 (by decide) rfl ?_
    exact z_ret (some (.int (zb false))) (Or.inr (Or.inl ⟨_, _, rfl, rfl, zb_nar _, dX7_isLike_99⟩)) zN200 ⟨_, rfl, h⟩
  · have h := zit h c
    refine z_aload_n (i := 0) dX7_isLike_26 rfl rfl rfl ?_
    refine z_aload_n (i := 1) dX7_isLike_27 rfl rfl rfl ?_
    refine z_getI (x := s3.1 p0 3) rfl f_X7_212 (i_Te hp0) rfl dX7_isLike_28 rfl ?_
    refine z_aload_n (i := 1) dX7_isLike_31 rfl rfl rfl ?_
    refine z_getI (x := s3.1 p0 4) rfl f_X7_215 (i_Te hp0) rfl dX7_isLike_32 rfl ?_
    refine z_callV k_X7_isNear m_X7_364 (zRec_of i_64) rfl h rfl (Nat.le_of_ble_eq_true rfl) dX7_isLike_35 zy200 rfl ?_
    rintro v s5 ⟨b6, rfl, hRs5, h⟩
    show zt l g (d + 1) M_X7_isLike 38 [.ref 64, .ref p0, .ref p1, .int v2] [.int (zb b6)] s5 _
    refine z_ifb_eq (pt := 98) dX7_isLike_38 (by decide) rfl (fun c => ?_) (fun c => ?_)
    · have h := zif h (by rw [c]; exact Bool.false_ne_true)
      refine z_iconst (v := (0 : Int32)) dX7_isLike_98 (by decide) rfl ?_
      exact z_ret (some (.int (zb false))) (Or.inr (Or.inl ⟨_, _, rfl, rfl, zb_nar _, dX7_isLike_99⟩)) zN200 ⟨_, rfl, h⟩
    · have h := zit h c
      refine z_aload_n (i := 0) dX7_isLike_41 rfl rfl rfl ?_
      refine z_getR (q := 68) f_X7_21 i_64 rfl (r_64_1 (zRok_of hRs5 (zRok_of hRs3 hR))) (by decide) dX7_isLike_42 rfl ?_
      refine z_callV k_X4_hidingHill m_X7_188 (zRec_of i_68) rfl h rfl (Nat.le_of_ble_eq_true rfl) dX7_isLike_45 zy200 rfl ?_
      rintro v s7 ⟨r8, rfl, hRs7, h⟩
      show zt l g (d + 1) M_X7_isLike 48 [.ref 64, .ref p0, .ref p1, .int v2] [.int r8] s7 _
      refine z_iconst (v := (-1 : Int32)) dX7_isLike_48 (by decide) rfl ?_
      refine z_icmp_ne (pt := 98) dX7_isLike_49 (by decide) rfl (fun c => ?_) (fun c => ?_)
      · have h := zif h c
        refine z_iconst (v := (0 : Int32)) dX7_isLike_98 (by decide) rfl ?_
        exact z_ret (some (.int (zb false))) (Or.inr (Or.inl ⟨_, _, rfl, rfl, zb_nar _, dX7_isLike_99⟩)) zN200 ⟨_, rfl, h⟩
      · have h := zit h c
        refine z_aload_n (i := 0) dX7_isLike_52 rfl rfl rfl ?_
        refine z_getR (q := 68) f_X7_21 i_64 rfl (r_64_1 (zRok_of hRs7 (zRok_of hRs5 (zRok_of hRs3 hR)))) (by decide) dX7_isLike_53 rfl ?_
        refine z_aload_n (i := 2) dX7_isLike_56 rfl rfl rfl ?_
        refine z_iload_n (i := 3) dX7_isLike_57 rfl rfl rfl ?_
        refine z_aload_n (i := 1) dX7_isLike_58 rfl rfl rfl ?_
        refine z_getI (x := s7.1 p0 2) rfl f_X7_209 (i_Te hp0) rfl dX7_isLike_59 rfl ?_
        refine z_callV k_X4_look m_X7_184 (zRec_of i_68) rfl h rfl (Nat.le_of_ble_eq_true rfl) dX7_isLike_62 zy200 rfl ?_
        rintro v s9 ⟨b10, rfl, hRs9, h⟩
        show zt l g (d + 1) M_X7_isLike 65 [.ref 64, .ref p0, .ref p1, .int v2] [.int (zb b10)] s9 _
        refine z_ifb_eq (pt := 98) dX7_isLike_65 (by decide) rfl (fun c => ?_) (fun c => ?_)
        · have h := zif h (by rw [c]; exact Bool.false_ne_true)
          refine z_iconst (v := (0 : Int32)) dX7_isLike_98 (by decide) rfl ?_
          exact z_ret (some (.int (zb false))) (Or.inr (Or.inl ⟨_, _, rfl, rfl, zb_nar _, dX7_isLike_99⟩)) zN200 ⟨_, rfl, h⟩
        · have h := zit h c
          refine z_aload_n (i := 0) dX7_isLike_68 rfl rfl rfl ?_
          refine z_aload_n (i := 1) dX7_isLike_69 rfl rfl rfl ?_
          refine z_getI (x := s9.1 p0 5) rfl f_X7_218 (i_Te hp0) rfl dX7_isLike_70 rfl ?_
          refine z_aload_n (i := 1) dX7_isLike_73 rfl rfl rfl ?_
          refine z_getI (x := s9.1 p0 6) rfl f_X7_221 (i_Te hp0) rfl dX7_isLike_74 rfl ?_
          refine z_callV k_X7_isNear m_X7_364 (zRec_of i_64) rfl h rfl (Nat.le_of_ble_eq_true rfl) dX7_isLike_77 zy200 rfl ?_
          rintro v s11 ⟨b12, rfl, hRs11, h⟩
          show zt l g (d + 1) M_X7_isLike 80 [.ref 64, .ref p0, .ref p1, .int v2] [.int (zb b12)] s11 _
          refine z_ifb_eq (pt := 98) dX7_isLike_80 (by decide) rfl (fun c => ?_) (fun c => ?_)
          · have h := zif h (by rw [c]; exact Bool.false_ne_true)
            refine z_iconst (v := (0 : Int32)) dX7_isLike_98 (by decide) rfl ?_
            exact z_ret (some (.int (zb false))) (Or.inr (Or.inl ⟨_, _, rfl, rfl, zb_nar _, dX7_isLike_99⟩)) zN200 ⟨_, rfl, h⟩
          · have h := zit h c
            refine z_aload_n (i := 0) dX7_isLike_83 rfl rfl rfl ?_
            refine z_getR (q := 68) f_X7_21 i_64 rfl (r_64_1 (zRok_of hRs11 (zRok_of hRs9 (zRok_of hRs7 (zRok_of hRs5 (zRok_of hRs3 hR)))))) (by decide) dX7_isLike_84 rfl ?_
            refine z_callV k_X4_hidingHill m_X7_188 (zRec_of i_68) rfl h rfl (Nat.le_of_ble_eq_true rfl) dX7_isLike_87 zy200 rfl ?_
            rintro v s13 ⟨r14, rfl, hRs13, h⟩
            show zt l g (d + 1) M_X7_isLike 90 [.ref 64, .ref p0, .ref p1, .int v2] [.int r14] s13 _
            refine z_iconst (v := (-1 : Int32)) dX7_isLike_90 (by decide) rfl ?_
            refine z_icmp_ne (pt := 98) dX7_isLike_91 (by decide) rfl (fun c => ?_) (fun c => ?_)
            · have h := zif h c
              refine z_iconst (v := (0 : Int32)) dX7_isLike_98 (by decide) rfl ?_
              exact z_ret (some (.int (zb false))) (Or.inr (Or.inl ⟨_, _, rfl, rfl, zb_nar _, dX7_isLike_99⟩)) zN200 ⟨_, rfl, h⟩
            · have h := zit h c
              refine z_iconst (v := (1 : Int32)) dX7_isLike_94 (by decide) rfl ?_
              refine z_goto (pn := 99) dX7_isLike_95 (by decide) ?_
              exact z_ret (some (.int (zb true))) (Or.inr (Or.inl ⟨_, _, rfl, rfl, zb_nar _, dX7_isLike_99⟩)) zN200 ⟨_, rfl, h⟩
theorem dX7_isNear_0 : decode cX7_isNear 0 = .ok (.aload_n 0, 1) := by decide +kernel
theorem dX7_isNear_1 : decode cX7_isNear 1 = .ok (.getfield 21, 3) := by decide +kernel
theorem dX7_isNear_4 : decode cX7_isNear 4 = .ok (.getfield 192, 3) := by decide +kernel
theorem dX7_isNear_7 : decode cX7_isNear 7 = .ok (.iload_n 1, 1) := by decide +kernel
theorem dX7_isNear_8 : decode cX7_isNear 8 = .ok (.invokestatic 367, 3) := by decide +kernel
theorem dX7_isNear_11 : decode cX7_isNear 11 = .ok (.aload_n 0, 1) := by decide +kernel
theorem dX7_isNear_12 : decode cX7_isNear 12 = .ok (.getfield 41, 3) := by decide +kernel
theorem dX7_isNear_15 : decode cX7_isNear 15 = .ok (.if_icmp .gt 26, 3) := by decide +kernel
theorem dX7_isNear_18 : decode cX7_isNear 18 = .ok (.aload_n 0, 1) := by decide +kernel
theorem dX7_isNear_19 : decode cX7_isNear 19 = .ok (.getfield 21, 3) := by decide +kernel
theorem dX7_isNear_22 : decode cX7_isNear 22 = .ok (.getfield 193, 3) := by decide +kernel
theorem dX7_isNear_25 : decode cX7_isNear 25 = .ok (.iload_n 2, 1) := by decide +kernel
theorem dX7_isNear_26 : decode cX7_isNear 26 = .ok (.isub, 1) := by decide +kernel
theorem dX7_isNear_27 : decode cX7_isNear 27 = .ok (.invokestatic 281, 3) := by decide +kernel
theorem dX7_isNear_30 : decode cX7_isNear 30 = .ok (.aload_n 0, 1) := by decide +kernel
theorem dX7_isNear_31 : decode cX7_isNear 31 = .ok (.getfield 45, 3) := by decide +kernel
theorem dX7_isNear_34 : decode cX7_isNear 34 = .ok (.if_icmp .gt 7, 3) := by decide +kernel
theorem dX7_isNear_37 : decode cX7_isNear 37 = .ok (.iconst 1, 1) := by decide +kernel
theorem dX7_isNear_38 : decode cX7_isNear 38 = .ok (.goto 4, 3) := by decide +kernel
theorem dX7_isNear_41 : decode cX7_isNear 41 = .ok (.iconst 0, 1) := by decide +kernel
theorem dX7_isNear_42 : decode cX7_isNear 42 = .ok (.ireturn, 1) := by decide +kernel
set_option maxHeartbeats 4000000 in
set_option maxRecDepth 100000 in
theorem t_X7_isNear {l : Launch} {g : zG} {d : Nat} {s : zS} (hR : zRok s) {p0 : Int32} {p1 : Int32} {K : Bool → zS → Prop} (h : (zc l g d M_X7_apart [.int (s.1 68 1), .int p0] s (zKi (fun r2 s1 => s1.2.2.1 = s.2.2.1 ∧ (if (s1.1 64 8) < r2 then K false s1 else (if (s1.1 64 9) < (zabs ((s1.1 68 2) - p1)) then K false s1 else K true s1)))))) : zc l g (d + 1) M_X7_isNear [.ref 64, .int p0, .int p1] s (zKz K) := by
  refine zCall_of k_X7_isNear (Nat.le_of_ble_eq_true rfl) (Nat.le_refl _) (fun _ => ?_)
  show zt l g (d + 1) M_X7_isNear 0 [.ref 64, .int p0, .int p1] [] s (zKz K)
  refine z_aload_n (i := 0) dX7_isNear_0 rfl rfl rfl ?_
  refine z_getR (q := 68) f_X7_21 i_64 rfl (r_64_1 hR) (by decide) dX7_isNear_1 rfl ?_
  refine z_getI (x := s.1 68 1) rfl f_X7_192 i_68 rfl dX7_isNear_4 rfl ?_
  refine z_iload_n (i := 1) dX7_isNear_7 rfl rfl rfl ?_
  refine z_callS (as := [.int (s.1 68 1), .int p0]) k_X7_apart m_X7_367 rfl h rfl (Nat.le_of_ble_eq_true rfl) dX7_isNear_8 zy200 rfl ?_
  rintro v s1 ⟨r2, rfl, hRs1, h⟩
  show zt l g (d + 1) M_X7_isNear 11 [.ref 64, .int p0, .int p1] [.int r2] s1 _
  refine z_aload_n (i := 0) dX7_isNear_11 rfl rfl rfl ?_
  refine z_getI (x := s1.1 64 8) rfl f_X7_41 i_64 rfl dX7_isNear_12 rfl ?_
  refine z_icmp_gt (pt := 41) dX7_isNear_15 (by decide) rfl (fun c => ?_) (fun c => ?_)
  · have h := zit h c
    refine z_iconst (v := (0 : Int32)) dX7_isNear_41 (by decide) rfl ?_
    exact z_ret (some (.int (zb false))) (Or.inr (Or.inl ⟨_, _, rfl, rfl, zb_nar _, dX7_isNear_42⟩)) zN200 ⟨_, rfl, h⟩
  · have h := zif h c
    refine z_aload_n (i := 0) dX7_isNear_18 rfl rfl rfl ?_
    refine z_getR (q := 68) f_X7_21 i_64 rfl (r_64_1 (zRok_of hRs1 hR)) (by decide) dX7_isNear_19 rfl ?_
    refine z_getI (x := s1.1 68 2) rfl f_X7_193 i_68 rfl dX7_isNear_22 rfl ?_
    refine z_iload_n (i := 2) dX7_isNear_25 rfl rfl rfl ?_
    refine z_isub dX7_isNear_26 rfl ?_
    refine z_mabs m_X7_281 dX7_isNear_27 (Nat.le_of_ble_eq_true rfl) rfl ?_
    refine z_aload_n (i := 0) dX7_isNear_30 rfl rfl rfl ?_
    refine z_getI (x := s1.1 64 9) rfl f_X7_45 i_64 rfl dX7_isNear_31 rfl ?_
    refine z_icmp_gt (pt := 41) dX7_isNear_34 (by decide) rfl (fun c => ?_) (fun c => ?_)
    · have h := zit h c
      refine z_iconst (v := (0 : Int32)) dX7_isNear_41 (by decide) rfl ?_
      exact z_ret (some (.int (zb false))) (Or.inr (Or.inl ⟨_, _, rfl, rfl, zb_nar _, dX7_isNear_42⟩)) zN200 ⟨_, rfl, h⟩
    · have h := zif h c
      refine z_iconst (v := (1 : Int32)) dX7_isNear_37 (by decide) rfl ?_
      refine z_goto (pn := 42) dX7_isNear_38 (by decide) ?_
      exact z_ret (some (.int (zb true))) (Or.inr (Or.inl ⟨_, _, rfl, rfl, zb_nar _, dX7_isNear_42⟩)) zN200 ⟨_, rfl, h⟩
theorem dX7_apart_0 : decode cX7_apart 0 = .ok (.iload_n 0, 1) := by decide +kernel
theorem dX7_apart_1 : decode cX7_apart 1 = .ok (.iload_n 1, 1) := by decide +kernel
theorem dX7_apart_2 : decode cX7_apart 2 = .ok (.isub, 1) := by decide +kernel
theorem dX7_apart_3 : decode cX7_apart 3 = .ok (.invokestatic 281, 3) := by decide +kernel
theorem dX7_apart_6 : decode cX7_apart 6 = .ok (.istore_n 2, 1) := by decide +kernel
theorem dX7_apart_7 : decode cX7_apart 7 = .ok (.iload_n 2, 1) := by decide +kernel
theorem dX7_apart_8 : decode cX7_apart 8 = .ok (.sipush 256, 3) := by decide +kernel
theorem dX7_apart_11 : decode cX7_apart 11 = .ok (.iload_n 2, 1) := by decide +kernel
theorem dX7_apart_12 : decode cX7_apart 12 = .ok (.isub, 1) := by decide +kernel
theorem dX7_apart_13 : decode cX7_apart 13 = .ok (.invokestatic 370, 3) := by decide +kernel
theorem dX7_apart_16 : decode cX7_apart 16 = .ok (.ireturn, 1) := by decide +kernel
set_option maxHeartbeats 4000000 in
set_option maxRecDepth 100000 in
theorem t_X7_apart {l : Launch} {g : zG} {d : Nat} {s : zS} (hR : zRok s) {p0 : Int32} {p1 : Int32} {K : Int32 → zS → Prop} (h : K (zmin (zabs (p0 - p1)) ((256 : Int32) - (zabs (p0 - p1)))) s) : zc l g (d + 1) M_X7_apart [.int p0, .int p1] s (zKi K) := by
  refine zCall_of k_X7_apart (Nat.le_of_ble_eq_true rfl) (Nat.le_refl _) (fun _ => ?_)
  show zt l g (d + 1) M_X7_apart 0 [.int p0, .int p1, zJ] [] s (zKi K)
  refine z_iload_n (i := 0) dX7_apart_0 rfl rfl rfl ?_
  refine z_iload_n (i := 1) dX7_apart_1 rfl rfl rfl ?_
  refine z_isub dX7_apart_2 rfl ?_
  refine z_mabs m_X7_281 dX7_apart_3 (Nat.le_of_ble_eq_true rfl) rfl ?_
  refine z_istore_n (i := 2) dX7_apart_6 rfl (by decide) (zokd rfl) rfl ?_
  show zt l g (d + 1) M_X7_apart 7 [.int p0, .int p1, .int (zabs (p0 - p1))] [] s _
  refine z_iload_n (i := 2) dX7_apart_7 rfl rfl rfl ?_
  refine z_sipush (v := (256 : Int32)) dX7_apart_8 (by decide) rfl ?_
  refine z_iload_n (i := 2) dX7_apart_11 rfl rfl rfl ?_
  refine z_isub dX7_apart_12 rfl ?_
  refine z_mmin m_X7_370 dX7_apart_13 (Nat.le_of_ble_eq_true rfl) rfl ?_
  exact z_ret (some (.int (zmin (zabs (p0 - p1)) ((256 : Int32) - (zabs (p0 - p1)))))) (Or.inr (Or.inl ⟨_, _, rfl, rfl, rfl, dX7_apart_16⟩)) zN200 ⟨_, rfl, h⟩
theorem dX7_gatherNeeds_0 : decode cX7_gatherNeeds 0 = .ok (.iconst 0, 1) := by decide +kernel
theorem dX7_gatherNeeds_1 : decode cX7_gatherNeeds 1 = .ok (.istore_n 1, 1) := by decide +kernel
theorem dX7_gatherNeeds_2 : decode cX7_gatherNeeds 2 = .ok (.iconst 0, 1) := by decide +kernel
theorem dX7_gatherNeeds_3 : decode cX7_gatherNeeds 3 = .ok (.istore_n 2, 1) := by decide +kernel
theorem dX7_gatherNeeds_4 : decode cX7_gatherNeeds 4 = .ok (.iload_n 2, 1) := by decide +kernel
theorem dX7_gatherNeeds_5 : decode cX7_gatherNeeds 5 = .ok (.aload_n 0, 1) := by decide +kernel
theorem dX7_gatherNeeds_6 : decode cX7_gatherNeeds 6 = .ok (.getfield 200, 3) := by decide +kernel
theorem dX7_gatherNeeds_9 : decode cX7_gatherNeeds 9 = .ok (.if_icmp .ge 84, 3) := by decide +kernel
theorem dX7_gatherNeeds_12 : decode cX7_gatherNeeds 12 = .ok (.aload_n 0, 1) := by decide +kernel
theorem dX7_gatherNeeds_13 : decode cX7_gatherNeeds 13 = .ok (.aload_n 0, 1) := by decide +kernel
theorem dX7_gatherNeeds_14 : decode cX7_gatherNeeds 14 = .ok (.getfield 37, 3) := by decide +kernel
theorem dX7_gatherNeeds_17 : decode cX7_gatherNeeds 17 = .ok (.iload_n 2, 1) := by decide +kernel
theorem dX7_gatherNeeds_18 : decode cX7_gatherNeeds 18 = .ok (.aaload, 1) := by decide +kernel
theorem dX7_gatherNeeds_19 : decode cX7_gatherNeeds 19 = .ok (.invokevirtual 242, 3) := by decide +kernel
theorem dX7_gatherNeeds_22 : decode cX7_gatherNeeds 22 = .ok (.istore_n 3, 1) := by decide +kernel
theorem dX7_gatherNeeds_23 : decode cX7_gatherNeeds 23 = .ok (.iload_n 3, 1) := by decide +kernel
theorem dX7_gatherNeeds_24 : decode cX7_gatherNeeds 24 = .ok (.ifCond .ne 7, 3) := by decide +kernel
theorem dX7_gatherNeeds_27 : decode cX7_gatherNeeds 27 = .ok (.iconst 1, 1) := by decide +kernel
theorem dX7_gatherNeeds_28 : decode cX7_gatherNeeds 28 = .ok (.goto 4, 3) := by decide +kernel
theorem dX7_gatherNeeds_31 : decode cX7_gatherNeeds 31 = .ok (.iconst 0, 1) := by decide +kernel
theorem dX7_gatherNeeds_32 : decode cX7_gatherNeeds 32 = .ok (.istore 4, 2) := by decide +kernel
theorem dX7_gatherNeeds_34 : decode cX7_gatherNeeds 34 = .ok (.iconst 0, 1) := by decide +kernel
theorem dX7_gatherNeeds_35 : decode cX7_gatherNeeds 35 = .ok (.istore 5, 2) := by decide +kernel
theorem dX7_gatherNeeds_37 : decode cX7_gatherNeeds 37 = .ok (.iload 5, 2) := by decide +kernel
theorem dX7_gatherNeeds_39 : decode cX7_gatherNeeds 39 = .ok (.iload_n 1, 1) := by decide +kernel
theorem dX7_gatherNeeds_40 : decode cX7_gatherNeeds 40 = .ok (.if_icmp .ge 32, 3) := by decide +kernel
theorem dX7_gatherNeeds_43 : decode cX7_gatherNeeds 43 = .ok (.iload 4, 2) := by decide +kernel
theorem dX7_gatherNeeds_45 : decode cX7_gatherNeeds 45 = .ok (.ifCond .ne 27, 3) := by decide +kernel
theorem dX7_gatherNeeds_48 : decode cX7_gatherNeeds 48 = .ok (.aload_n 0, 1) := by decide +kernel
theorem dX7_gatherNeeds_49 : decode cX7_gatherNeeds 49 = .ok (.getfield 54, 3) := by decide +kernel
theorem dX7_gatherNeeds_52 : decode cX7_gatherNeeds 52 = .ok (.iload 5, 2) := by decide +kernel
theorem dX7_gatherNeeds_54 : decode cX7_gatherNeeds 54 = .ok (.iaload, 1) := by decide +kernel
theorem dX7_gatherNeeds_55 : decode cX7_gatherNeeds 55 = .ok (.iload_n 3, 1) := by decide +kernel
theorem dX7_gatherNeeds_56 : decode cX7_gatherNeeds 56 = .ok (.if_icmp .ne 7, 3) := by decide +kernel
theorem dX7_gatherNeeds_59 : decode cX7_gatherNeeds 59 = .ok (.iconst 1, 1) := by decide +kernel
theorem dX7_gatherNeeds_60 : decode cX7_gatherNeeds 60 = .ok (.goto 4, 3) := by decide +kernel
theorem dX7_gatherNeeds_63 : decode cX7_gatherNeeds 63 = .ok (.iconst 0, 1) := by decide +kernel
theorem dX7_gatherNeeds_64 : decode cX7_gatherNeeds 64 = .ok (.istore 4, 2) := by decide +kernel
theorem dX7_gatherNeeds_66 : decode cX7_gatherNeeds 66 = .ok (.iinc 5 1, 3) := by decide +kernel
theorem dX7_gatherNeeds_69 : decode cX7_gatherNeeds 69 = .ok (.goto (-32), 3) := by decide +kernel
theorem dX7_gatherNeeds_72 : decode cX7_gatherNeeds 72 = .ok (.iload 4, 2) := by decide +kernel
theorem dX7_gatherNeeds_74 : decode cX7_gatherNeeds 74 = .ok (.ifCond .ne 13, 3) := by decide +kernel
theorem dX7_gatherNeeds_77 : decode cX7_gatherNeeds 77 = .ok (.aload_n 0, 1) := by decide +kernel
theorem dX7_gatherNeeds_78 : decode cX7_gatherNeeds 78 = .ok (.getfield 54, 3) := by decide +kernel
theorem dX7_gatherNeeds_81 : decode cX7_gatherNeeds 81 = .ok (.iload_n 1, 1) := by decide +kernel
theorem dX7_gatherNeeds_82 : decode cX7_gatherNeeds 82 = .ok (.iload_n 3, 1) := by decide +kernel
theorem dX7_gatherNeeds_83 : decode cX7_gatherNeeds 83 = .ok (.iastore, 1) := by decide +kernel
theorem dX7_gatherNeeds_84 : decode cX7_gatherNeeds 84 = .ok (.iinc 1 1, 3) := by decide +kernel
theorem dX7_gatherNeeds_87 : decode cX7_gatherNeeds 87 = .ok (.iinc 2 1, 3) := by decide +kernel
theorem dX7_gatherNeeds_90 : decode cX7_gatherNeeds 90 = .ok (.goto (-86), 3) := by decide +kernel
theorem dX7_gatherNeeds_93 : decode cX7_gatherNeeds 93 = .ok (.iload_n 1, 1) := by decide +kernel
theorem dX7_gatherNeeds_94 : decode cX7_gatherNeeds 94 = .ok (.ireturn, 1) := by decide +kernel
set_option maxHeartbeats 4000000 in
set_option maxRecDepth 100000 in
theorem t_X7_gatherNeeds {l : Launch} {g : zG} {d : Nat} {s : zS} (hR : zRok s)  {K : Int32 → zS → Prop} (h : zt l g (d + 1) M_X7_gatherNeeds 4 [.ref 64, .int (0 : Int32), .int (0 : Int32), zJ, zJ, zJ] [] s (zKi K)) : zc l g (d + 1) M_X7_gatherNeeds [.ref 64] s (zKi K) := by
  refine zCall_of k_X7_gatherNeeds (Nat.le_of_ble_eq_true rfl) (Nat.le_refl _) (fun _ => ?_)
  show zt l g (d + 1) M_X7_gatherNeeds 0 [.ref 64, zJ, zJ, zJ, zJ, zJ] [] s (zKi K)
  refine z_iconst (v := (0 : Int32)) dX7_gatherNeeds_0 (by decide) rfl ?_
  refine z_istore_n (i := 1) dX7_gatherNeeds_1 rfl (by decide) (zokd rfl) rfl ?_
  show zt l g (d + 1) M_X7_gatherNeeds 2 [.ref 64, .int (0 : Int32), zJ, zJ, zJ, zJ] [] s _
  refine z_iconst (v := (0 : Int32)) dX7_gatherNeeds_2 (by decide) rfl ?_
  refine z_istore_n (i := 2) dX7_gatherNeeds_3 rfl (by decide) (zokd rfl) rfl ?_
  show zt l g (d + 1) M_X7_gatherNeeds 4 [.ref 64, .int (0 : Int32), .int (0 : Int32), zJ, zJ, zJ] [] s _
  exact h
set_option maxHeartbeats 4000000 in
set_option maxRecDepth 100000 in
theorem t_X7_gatherNeeds_4 {l : Launch} {g : zG} {d : Nat} {s : zS} (hR : zRok s) {x1 : Int32} {x2 : Int32} {K : Int32 → zS → Prop} (h : (if (s.1 64 7) ≤ x2 then K x1 s else (vp_in x2 60 ∧ (zc l g d M_X7_fittingOf [.ref 64, .ref (104 + x2.toNatClampNeg)] s (zKi (fun r3 s2 => s2.2.2.1 = s.2.2.1 ∧ (if r3 = 0 then zt l g (d + 1) M_X7_gatherNeeds 37 [.ref 64, .int x1, .int x2, .int r3, .int (1 : Int32), .int (0 : Int32)] [] s2 (zKi K) else zt l g (d + 1) M_X7_gatherNeeds 37 [.ref 64, .int x1, .int x2, .int r3, .int (0 : Int32), .int (0 : Int32)] [] s2 (zKi K)))))))) : zt l g (d + 1) M_X7_gatherNeeds 4 [.ref 64, .int x1, .int x2, zJ, zJ, zJ] [] s (zKi K) := by
  refine z_iload_n (i := 2) dX7_gatherNeeds_4 rfl rfl rfl ?_
  refine z_aload_n (i := 0) dX7_gatherNeeds_5 rfl rfl rfl ?_
  refine z_getI (x := s.1 64 7) rfl f_X7_200 i_64 rfl dX7_gatherNeeds_6 rfl ?_
  refine z_icmp_ge (pt := 93) dX7_gatherNeeds_9 (by decide) rfl (fun c => ?_) (fun c => ?_)
  · have h := zit h c
    refine z_iload_n (i := 1) dX7_gatherNeeds_93 rfl rfl rfl ?_
    exact z_ret (some (.int x1)) (Or.inr (Or.inl ⟨_, _, rfl, rfl, rfl, dX7_gatherNeeds_94⟩)) zN200 ⟨_, rfl, h⟩
  · have h := zif h c
    refine z_aload_n (i := 0) dX7_gatherNeeds_12 rfl rfl rfl ?_
    refine z_aload_n (i := 0) dX7_gatherNeeds_13 rfl rfl rfl ?_
    refine z_getR (q := 71) f_X7_37 i_64 rfl (r_64_6 hR) (by decide) dX7_gatherNeeds_14 rfl ?_
    refine z_iload_n (i := 2) dX7_gatherNeeds_17 rfl rfl rfl ?_
    obtain ⟨a1, h⟩ := h
    have wa1 := vin a1
    refine z_aald (q := 104 + x2.toNatClampNeg) (by decide) a_71 a1 (r_71 hR a1) (by omega) dX7_gatherNeeds_18 rfl ?_
    refine z_callV k_X7_fittingOf m_X7_242 (zRec_of i_64) rfl h rfl (Nat.le_of_ble_eq_true rfl) dX7_gatherNeeds_19 zy200 rfl ?_
    rintro v s2 ⟨r3, rfl, hRs2, h⟩
    show zt l g (d + 1) M_X7_gatherNeeds 22 [.ref 64, .int x1, .int x2, zJ, zJ, zJ] [.int r3] s2 _
    refine z_istore_n (i := 3) dX7_gatherNeeds_22 rfl (by decide) (zokd rfl) rfl ?_
    show zt l g (d + 1) M_X7_gatherNeeds 23 [.ref 64, .int x1, .int x2, .int r3, zJ, zJ] [] s2 _
    refine z_iload_n (i := 3) dX7_gatherNeeds_23 rfl rfl rfl ?_
    refine z_if_ne (pt := 31) dX7_gatherNeeds_24 (by decide) rfl (fun c => ?_) (fun c => ?_)
    · have h := zif h c
      refine z_iconst (v := (0 : Int32)) dX7_gatherNeeds_31 (by decide) rfl ?_
      refine z_istore dX7_gatherNeeds_32 (by decide) (zokd rfl) rfl ?_
      show zt l g (d + 1) M_X7_gatherNeeds 34 [.ref 64, .int x1, .int x2, .int r3, .int (0 : Int32), zJ] [] s2 _
      refine z_iconst (v := (0 : Int32)) dX7_gatherNeeds_34 (by decide) rfl ?_
      refine z_istore dX7_gatherNeeds_35 (by decide) (zokd rfl) rfl ?_
      show zt l g (d + 1) M_X7_gatherNeeds 37 [.ref 64, .int x1, .int x2, .int r3, .int (0 : Int32), .int (0 : Int32)] [] s2 _
      exact h
    · have h := zit h c
      refine z_iconst (v := (1 : Int32)) dX7_gatherNeeds_27 (by decide) rfl ?_
      refine z_goto (pn := 32) dX7_gatherNeeds_28 (by decide) ?_
      refine z_istore dX7_gatherNeeds_32 (by decide) (zokd rfl) rfl ?_
      show zt l g (d + 1) M_X7_gatherNeeds 34 [.ref 64, .int x1, .int x2, .int r3, .int (1 : Int32), zJ] [] s2 _
      refine z_iconst (v := (0 : Int32)) dX7_gatherNeeds_34 (by decide) rfl ?_
      refine z_istore dX7_gatherNeeds_35 (by decide) (zokd rfl) rfl ?_
      show zt l g (d + 1) M_X7_gatherNeeds 37 [.ref 64, .int x1, .int x2, .int r3, .int (1 : Int32), .int (0 : Int32)] [] s2 _
      exact h
set_option maxHeartbeats 4000000 in
set_option maxRecDepth 100000 in
theorem t_X7_gatherNeeds_37 {l : Launch} {g : zG} {d : Nat} {s : zS} (hR : zRok s) {x1 : Int32} {x2 : Int32} {x3 : Int32} {x4 : Int32} {x5 : Int32} {K : Int32 → zS → Prop} (h : (if x1 ≤ x5 then (if x4 = 0 then (vp_in x1 60 ∧ zt l g (d + 1) M_X7_gatherNeeds 4 [.ref 64, .int (x1 + (1 : Int32)), .int (x2 + (1 : Int32)), zJ, zJ, zJ] [] (zI s 73 x1.toNatClampNeg x3) (zKi K)) else zt l g (d + 1) M_X7_gatherNeeds 4 [.ref 64, .int x1, .int (x2 + (1 : Int32)), zJ, zJ, zJ] [] s (zKi K)) else (if x4 = 0 then (vp_in x5 60 ∧ (if (s.1 73 x5.toNatClampNeg) = x3 then zt l g (d + 1) M_X7_gatherNeeds 37 [.ref 64, .int x1, .int x2, .int x3, .int (1 : Int32), .int (x5 + (1 : Int32))] [] s (zKi K) else zt l g (d + 1) M_X7_gatherNeeds 37 [.ref 64, .int x1, .int x2, .int x3, .int (0 : Int32), .int (x5 + (1 : Int32))] [] s (zKi K))) else (if x4 = 0 then (vp_in x1 60 ∧ zt l g (d + 1) M_X7_gatherNeeds 4 [.ref 64, .int (x1 + (1 : Int32)), .int (x2 + (1 : Int32)), zJ, zJ, zJ] [] (zI s 73 x1.toNatClampNeg x3) (zKi K)) else zt l g (d + 1) M_X7_gatherNeeds 4 [.ref 64, .int x1, .int (x2 + (1 : Int32)), zJ, zJ, zJ] [] s (zKi K))))) : zt l g (d + 1) M_X7_gatherNeeds 37 [.ref 64, .int x1, .int x2, .int x3, .int x4, .int x5] [] s (zKi K) := by
  refine z_iload dX7_gatherNeeds_37 rfl rfl ?_
  refine z_iload_n (i := 1) dX7_gatherNeeds_39 rfl rfl rfl ?_
  refine z_icmp_ge (pt := 72) dX7_gatherNeeds_40 (by decide) rfl (fun c => ?_) (fun c => ?_)
  · have h := zit h c
    refine z_iload dX7_gatherNeeds_72 rfl rfl ?_
    refine z_if_ne (pt := 87) dX7_gatherNeeds_74 (by decide) rfl (fun c => ?_) (fun c => ?_)
    · have h := zif h c
      refine z_iinc (v := x2 + (1 : Int32)) dX7_gatherNeeds_87 rfl rfl (by decide) (zokd rfl) rfl ?_
      show zt l g (d + 1) M_X7_gatherNeeds 90 [.ref 64, .int x1, .int (x2 + (1 : Int32)), .int x3, .int x4, .int x5] [] s _
      refine z_goto (pn := 4) dX7_gatherNeeds_90 (by decide) ?_
      refine z_wk (ls' := [.ref 64, .int x1, .int (x2 + (1 : Int32)), zJ, zJ, zJ]) ⟨Or.inr rfl, Or.inr rfl, Or.inr rfl, Or.inl rfl, Or.inl rfl, Or.inl rfl, trivial⟩ ?_
      exact h
    · have h := zit h c
      refine z_aload_n (i := 0) dX7_gatherNeeds_77 rfl rfl rfl ?_
      refine z_getR (q := 73) f_X7_54 i_64 rfl (r_64_12 hR) (by decide) dX7_gatherNeeds_78 rfl ?_
      refine z_iload_n (i := 1) dX7_gatherNeeds_81 rfl rfl rfl ?_
      refine z_iload_n (i := 3) dX7_gatherNeeds_82 rfl rfl rfl ?_
      obtain ⟨a1, h⟩ := h
      have wa1 := vin a1
      refine z_iast a_73 a1 dX7_gatherNeeds_83 rfl ?_
      show zt l g (d + 1) M_X7_gatherNeeds 84 [.ref 64, .int x1, .int x2, .int x3, .int x4, .int x5] [] (zI s 73 x1.toNatClampNeg x3) _
      refine z_iinc (v := x1 + (1 : Int32)) dX7_gatherNeeds_84 rfl rfl (by decide) (zokd rfl) rfl ?_
      show zt l g (d + 1) M_X7_gatherNeeds 87 [.ref 64, .int (x1 + (1 : Int32)), .int x2, .int x3, .int x4, .int x5] [] (zI s 73 x1.toNatClampNeg x3) _
      refine z_iinc (v := x2 + (1 : Int32)) dX7_gatherNeeds_87 rfl rfl (by decide) (zokd rfl) rfl ?_
      show zt l g (d + 1) M_X7_gatherNeeds 90 [.ref 64, .int (x1 + (1 : Int32)), .int (x2 + (1 : Int32)), .int x3, .int x4, .int x5] [] (zI s 73 x1.toNatClampNeg x3) _
      refine z_goto (pn := 4) dX7_gatherNeeds_90 (by decide) ?_
      refine z_wk (ls' := [.ref 64, .int (x1 + (1 : Int32)), .int (x2 + (1 : Int32)), zJ, zJ, zJ]) ⟨Or.inr rfl, Or.inr rfl, Or.inr rfl, Or.inl rfl, Or.inl rfl, Or.inl rfl, trivial⟩ ?_
      exact h
  · have h := zif h c
    refine z_iload dX7_gatherNeeds_43 rfl rfl ?_
    refine z_if_ne (pt := 72) dX7_gatherNeeds_45 (by decide) rfl (fun c => ?_) (fun c => ?_)
    · have h := zif h c
      refine z_iload dX7_gatherNeeds_72 rfl rfl ?_
      refine z_if_ne (pt := 87) dX7_gatherNeeds_74 (by decide) rfl (fun c => ?_) (fun c => ?_)
      · have h := zif h c
        refine z_iinc (v := x2 + (1 : Int32)) dX7_gatherNeeds_87 rfl rfl (by decide) (zokd rfl) rfl ?_
        show zt l g (d + 1) M_X7_gatherNeeds 90 [.ref 64, .int x1, .int (x2 + (1 : Int32)), .int x3, .int x4, .int x5] [] s _
        refine z_goto (pn := 4) dX7_gatherNeeds_90 (by decide) ?_
        refine z_wk (ls' := [.ref 64, .int x1, .int (x2 + (1 : Int32)), zJ, zJ, zJ]) ⟨Or.inr rfl, Or.inr rfl, Or.inr rfl, Or.inl rfl, Or.inl rfl, Or.inl rfl, trivial⟩ ?_
        exact h
      · have h := zit h c
        refine z_aload_n (i := 0) dX7_gatherNeeds_77 rfl rfl rfl ?_
        refine z_getR (q := 73) f_X7_54 i_64 rfl (r_64_12 hR) (by decide) dX7_gatherNeeds_78 rfl ?_
        refine z_iload_n (i := 1) dX7_gatherNeeds_81 rfl rfl rfl ?_
        refine z_iload_n (i := 3) dX7_gatherNeeds_82 rfl rfl rfl ?_
        obtain ⟨a2, h⟩ := h
        have wa2 := vin a2
        refine z_iast a_73 a2 dX7_gatherNeeds_83 rfl ?_
        show zt l g (d + 1) M_X7_gatherNeeds 84 [.ref 64, .int x1, .int x2, .int x3, .int x4, .int x5] [] (zI s 73 x1.toNatClampNeg x3) _
        refine z_iinc (v := x1 + (1 : Int32)) dX7_gatherNeeds_84 rfl rfl (by decide) (zokd rfl) rfl ?_
        show zt l g (d + 1) M_X7_gatherNeeds 87 [.ref 64, .int (x1 + (1 : Int32)), .int x2, .int x3, .int x4, .int x5] [] (zI s 73 x1.toNatClampNeg x3) _
        refine z_iinc (v := x2 + (1 : Int32)) dX7_gatherNeeds_87 rfl rfl (by decide) (zokd rfl) rfl ?_
        show zt l g (d + 1) M_X7_gatherNeeds 90 [.ref 64, .int (x1 + (1 : Int32)), .int (x2 + (1 : Int32)), .int x3, .int x4, .int x5] [] (zI s 73 x1.toNatClampNeg x3) _
        refine z_goto (pn := 4) dX7_gatherNeeds_90 (by decide) ?_
        refine z_wk (ls' := [.ref 64, .int (x1 + (1 : Int32)), .int (x2 + (1 : Int32)), zJ, zJ, zJ]) ⟨Or.inr rfl, Or.inr rfl, Or.inr rfl, Or.inl rfl, Or.inl rfl, Or.inl rfl, trivial⟩ ?_
        exact h
    · have h := zit h c
      refine z_aload_n (i := 0) dX7_gatherNeeds_48 rfl rfl rfl ?_
      refine z_getR (q := 73) f_X7_54 i_64 rfl (r_64_12 hR) (by decide) dX7_gatherNeeds_49 rfl ?_
      refine z_iload dX7_gatherNeeds_52 rfl rfl ?_
      obtain ⟨a3, h⟩ := h
      have wa3 := vin a3
      refine z_iald (x := s.1 73 x5.toNatClampNeg) rfl a_73 a3 dX7_gatherNeeds_54 rfl ?_
      refine z_iload_n (i := 3) dX7_gatherNeeds_55 rfl rfl rfl ?_
      refine z_icmp_ne (pt := 63) dX7_gatherNeeds_56 (by decide) rfl (fun c => ?_) (fun c => ?_)
      · have h := zif h c
        refine z_iconst (v := (0 : Int32)) dX7_gatherNeeds_63 (by decide) rfl ?_
        refine z_istore dX7_gatherNeeds_64 (by decide) (zokd rfl) rfl ?_
        show zt l g (d + 1) M_X7_gatherNeeds 66 [.ref 64, .int x1, .int x2, .int x3, .int (0 : Int32), .int x5] [] s _
        refine z_iinc (v := x5 + (1 : Int32)) dX7_gatherNeeds_66 rfl rfl (by decide) (zokd rfl) rfl ?_
        show zt l g (d + 1) M_X7_gatherNeeds 69 [.ref 64, .int x1, .int x2, .int x3, .int (0 : Int32), .int (x5 + (1 : Int32))] [] s _
        refine z_goto (pn := 37) dX7_gatherNeeds_69 (by decide) ?_
        exact h
      · have h := zit h c
        refine z_iconst (v := (1 : Int32)) dX7_gatherNeeds_59 (by decide) rfl ?_
        refine z_goto (pn := 64) dX7_gatherNeeds_60 (by decide) ?_
        refine z_istore dX7_gatherNeeds_64 (by decide) (zokd rfl) rfl ?_
        show zt l g (d + 1) M_X7_gatherNeeds 66 [.ref 64, .int x1, .int x2, .int x3, .int (1 : Int32), .int x5] [] s _
        refine z_iinc (v := x5 + (1 : Int32)) dX7_gatherNeeds_66 rfl rfl (by decide) (zokd rfl) rfl ?_
        show zt l g (d + 1) M_X7_gatherNeeds 69 [.ref 64, .int x1, .int x2, .int x3, .int (1 : Int32), .int (x5 + (1 : Int32))] [] s _
        refine z_goto (pn := 37) dX7_gatherNeeds_69 (by decide) ?_
        exact h
theorem dX7_meetsAll_0 : decode cX7_meetsAll 0 = .ok (.iconst 0, 1) := by decide +kernel
theorem dX7_meetsAll_1 : decode cX7_meetsAll 1 = .ok (.istore_n 3, 1) := by decide +kernel
theorem dX7_meetsAll_2 : decode cX7_meetsAll 2 = .ok (.iload_n 3, 1) := by decide +kernel
theorem dX7_meetsAll_3 : decode cX7_meetsAll 3 = .ok (.iload_n 2, 1) := by decide +kernel
theorem dX7_meetsAll_4 : decode cX7_meetsAll 4 = .ok (.if_icmp .ge 22, 3) := by decide +kernel
theorem dX7_meetsAll_7 : decode cX7_meetsAll 7 = .ok (.aload_n 0, 1) := by decide +kernel
theorem dX7_meetsAll_8 : decode cX7_meetsAll 8 = .ok (.getfield 54, 3) := by decide +kernel
theorem dX7_meetsAll_11 : decode cX7_meetsAll 11 = .ok (.iload_n 3, 1) := by decide +kernel
theorem dX7_meetsAll_12 : decode cX7_meetsAll 12 = .ok (.iaload, 1) := by decide +kernel
theorem dX7_meetsAll_13 : decode cX7_meetsAll 13 = .ok (.iload_n 1, 1) := by decide +kernel
theorem dX7_meetsAll_14 : decode cX7_meetsAll 14 = .ok (.iand, 1) := by decide +kernel
theorem dX7_meetsAll_15 : decode cX7_meetsAll 15 = .ok (.ifCond .ne 5, 3) := by decide +kernel
theorem dX7_meetsAll_18 : decode cX7_meetsAll 18 = .ok (.iconst 0, 1) := by decide +kernel
theorem dX7_meetsAll_19 : decode cX7_meetsAll 19 = .ok (.ireturn, 1) := by decide +kernel
theorem dX7_meetsAll_20 : decode cX7_meetsAll 20 = .ok (.iinc 3 1, 3) := by decide +kernel
theorem dX7_meetsAll_23 : decode cX7_meetsAll 23 = .ok (.goto (-21), 3) := by decide +kernel
theorem dX7_meetsAll_26 : decode cX7_meetsAll 26 = .ok (.iconst 1, 1) := by decide +kernel
theorem dX7_meetsAll_27 : decode cX7_meetsAll 27 = .ok (.ireturn, 1) := by decide +kernel
set_option maxHeartbeats 4000000 in
set_option maxRecDepth 100000 in
theorem t_X7_meetsAll {l : Launch} {g : zG} {d : Nat} {s : zS} (hR : zRok s) {p0 : Int32} {p1 : Int32} {K : Bool → zS → Prop} (h : zt l g d M_X7_meetsAll 2 [.ref 64, .int p0, .int p1, .int (0 : Int32)] [] s (zKz K)) : zc l g d M_X7_meetsAll [.ref 64, .int p0, .int p1] s (zKz K) := by
  refine zCall_of k_X7_meetsAll (Nat.le_of_ble_eq_true rfl) (Nat.le_refl _) (fun _ => ?_)
  show zt l g d M_X7_meetsAll 0 [.ref 64, .int p0, .int p1, zJ] [] s (zKz K)
  refine z_iconst (v := (0 : Int32)) dX7_meetsAll_0 (by decide) rfl ?_
  refine z_istore_n (i := 3) dX7_meetsAll_1 rfl (by decide) (zokd rfl) rfl ?_
  show zt l g d M_X7_meetsAll 2 [.ref 64, .int p0, .int p1, .int (0 : Int32)] [] s _
  exact h
set_option maxHeartbeats 4000000 in
set_option maxRecDepth 100000 in
theorem t_X7_meetsAll_2 {l : Launch} {g : zG} {d : Nat} {s : zS} (hR : zRok s) {x1 : Int32} {x2 : Int32} {x3 : Int32} {K : Bool → zS → Prop} (h : (if x2 ≤ x3 then K true s else (vp_in x3 60 ∧ (if ((s.1 73 x3.toNatClampNeg) &&& x1) = 0 then K false s else zt l g d M_X7_meetsAll 2 [.ref 64, .int x1, .int x2, .int (x3 + (1 : Int32))] [] s (zKz K))))) : zt l g d M_X7_meetsAll 2 [.ref 64, .int x1, .int x2, .int x3] [] s (zKz K) := by
  refine z_iload_n (i := 3) dX7_meetsAll_2 rfl rfl rfl ?_
  refine z_iload_n (i := 2) dX7_meetsAll_3 rfl rfl rfl ?_
  refine z_icmp_ge (pt := 26) dX7_meetsAll_4 (by decide) rfl (fun c => ?_) (fun c => ?_)
  · have h := zit h c
    refine z_iconst (v := (1 : Int32)) dX7_meetsAll_26 (by decide) rfl ?_
    exact z_ret (some (.int (zb true))) (Or.inr (Or.inl ⟨_, _, rfl, rfl, zb_nar _, dX7_meetsAll_27⟩)) zN200 ⟨_, rfl, h⟩
  · have h := zif h c
    refine z_aload_n (i := 0) dX7_meetsAll_7 rfl rfl rfl ?_
    refine z_getR (q := 73) f_X7_54 i_64 rfl (r_64_12 hR) (by decide) dX7_meetsAll_8 rfl ?_
    refine z_iload_n (i := 3) dX7_meetsAll_11 rfl rfl rfl ?_
    obtain ⟨a1, h⟩ := h
    have wa1 := vin a1
    refine z_iald (x := s.1 73 x3.toNatClampNeg) rfl a_73 a1 dX7_meetsAll_12 rfl ?_
    refine z_iload_n (i := 1) dX7_meetsAll_13 rfl rfl rfl ?_
    refine z_iand dX7_meetsAll_14 rfl ?_
    refine z_if_ne (pt := 20) dX7_meetsAll_15 (by decide) rfl (fun c => ?_) (fun c => ?_)
    · have h := zif h c
      refine z_iinc (v := x3 + (1 : Int32)) dX7_meetsAll_20 rfl rfl (by decide) (zokd rfl) rfl ?_
      show zt l g d M_X7_meetsAll 23 [.ref 64, .int x1, .int x2, .int (x3 + (1 : Int32))] [] s _
      refine z_goto (pn := 2) dX7_meetsAll_23 (by decide) ?_
      exact h
    · have h := zit h c
      refine z_iconst (v := (0 : Int32)) dX7_meetsAll_18 (by decide) rfl ?_
      exact z_ret (some (.int (zb false))) (Or.inr (Or.inl ⟨_, _, rfl, rfl, zb_nar _, dX7_meetsAll_19⟩)) zN200 ⟨_, rfl, h⟩
theorem dX7_weighMinutes_0 : decode cX7_weighMinutes 0 = .ok (.aload_n 1, 1) := by decide +kernel
theorem dX7_weighMinutes_1 : decode cX7_weighMinutes 1 = .ok (.getfield 233, 3) := by decide +kernel
theorem dX7_weighMinutes_4 : decode cX7_weighMinutes 4 = .ok (.aload_n 0, 1) := by decide +kernel
theorem dX7_weighMinutes_5 : decode cX7_weighMinutes 5 = .ok (.getfield 48, 3) := by decide +kernel
theorem dX7_weighMinutes_8 : decode cX7_weighMinutes 8 = .ok (.if_icmp .ne 4, 3) := by decide +kernel
theorem dX7_weighMinutes_11 : decode cX7_weighMinutes 11 = .ok (.return_, 1) := by decide +kernel
theorem dX7_weighMinutes_12 : decode cX7_weighMinutes 12 = .ok (.aload_n 0, 1) := by decide +kernel
theorem dX7_weighMinutes_13 : decode cX7_weighMinutes 13 = .ok (.aload_n 1, 1) := by decide +kernel
theorem dX7_weighMinutes_14 : decode cX7_weighMinutes 14 = .ok (.invokevirtual 242, 3) := by decide +kernel
theorem dX7_weighMinutes_17 : decode cX7_weighMinutes 17 = .ok (.istore_n 2, 1) := by decide +kernel
theorem dX7_weighMinutes_18 : decode cX7_weighMinutes 18 = .ok (.aload_n 1, 1) := by decide +kernel
theorem dX7_weighMinutes_19 : decode cX7_weighMinutes 19 = .ok (.iconst 0, 1) := by decide +kernel
theorem dX7_weighMinutes_20 : decode cX7_weighMinutes 20 = .ok (.putfield 293, 3) := by decide +kernel
theorem dX7_weighMinutes_23 : decode cX7_weighMinutes 23 = .ok (.aload_n 1, 1) := by decide +kernel
theorem dX7_weighMinutes_24 : decode cX7_weighMinutes 24 = .ok (.aload_n 1, 1) := by decide +kernel
theorem dX7_weighMinutes_25 : decode cX7_weighMinutes 25 = .ok (.getfield 206, 3) := by decide +kernel
theorem dX7_weighMinutes_28 : decode cX7_weighMinutes 28 = .ok (.putfield 296, 3) := by decide +kernel
theorem dX7_weighMinutes_31 : decode cX7_weighMinutes 31 = .ok (.aload_n 1, 1) := by decide +kernel
theorem dX7_weighMinutes_32 : decode cX7_weighMinutes 32 = .ok (.aload_n 0, 1) := by decide +kernel
theorem dX7_weighMinutes_33 : decode cX7_weighMinutes 33 = .ok (.getfield 48, 3) := by decide +kernel
theorem dX7_weighMinutes_36 : decode cX7_weighMinutes 36 = .ok (.putfield 233, 3) := by decide +kernel
theorem dX7_weighMinutes_39 : decode cX7_weighMinutes 39 = .ok (.iload_n 2, 1) := by decide +kernel
theorem dX7_weighMinutes_40 : decode cX7_weighMinutes 40 = .ok (.invokestatic 245, 3) := by decide +kernel
theorem dX7_weighMinutes_43 : decode cX7_weighMinutes 43 = .ok (.iconst 2, 1) := by decide +kernel
theorem dX7_weighMinutes_44 : decode cX7_weighMinutes 44 = .ok (.if_icmp .ge 4, 3) := by decide +kernel
theorem dX7_weighMinutes_47 : decode cX7_weighMinutes 47 = .ok (.return_, 1) := by decide +kernel
theorem dX7_weighMinutes_48 : decode cX7_weighMinutes 48 = .ok (.aload_n 1, 1) := by decide +kernel
theorem dX7_weighMinutes_49 : decode cX7_weighMinutes 49 = .ok (.getfield 206, 3) := by decide +kernel
theorem dX7_weighMinutes_52 : decode cX7_weighMinutes 52 = .ok (.istore_n 3, 1) := by decide +kernel
theorem dX7_weighMinutes_53 : decode cX7_weighMinutes 53 = .ok (.iload_n 3, 1) := by decide +kernel
theorem dX7_weighMinutes_54 : decode cX7_weighMinutes 54 = .ok (.aload_n 1, 1) := by decide +kernel
theorem dX7_weighMinutes_55 : decode cX7_weighMinutes 55 = .ok (.getfield 209, 3) := by decide +kernel
theorem dX7_weighMinutes_58 : decode cX7_weighMinutes 58 = .ok (.if_icmp .gt 41, 3) := by decide +kernel
theorem dX7_weighMinutes_61 : decode cX7_weighMinutes 61 = .ok (.aload_n 0, 1) := by decide +kernel
theorem dX7_weighMinutes_62 : decode cX7_weighMinutes 62 = .ok (.aload_n 1, 1) := by decide +kernel
theorem dX7_weighMinutes_63 : decode cX7_weighMinutes 63 = .ok (.getfield 203, 3) := by decide +kernel
theorem dX7_weighMinutes_66 : decode cX7_weighMinutes 66 = .ok (.iload_n 2, 1) := by decide +kernel
theorem dX7_weighMinutes_67 : decode cX7_weighMinutes 67 = .ok (.iload_n 3, 1) := by decide +kernel
theorem dX7_weighMinutes_68 : decode cX7_weighMinutes 68 = .ok (.invokevirtual 373, 3) := by decide +kernel
theorem dX7_weighMinutes_71 : decode cX7_weighMinutes 71 = .ok (.istore 4, 2) := by decide +kernel
theorem dX7_weighMinutes_73 : decode cX7_weighMinutes 73 = .ok (.iload 4, 2) := by decide +kernel
theorem dX7_weighMinutes_75 : decode cX7_weighMinutes 75 = .ok (.aload_n 1, 1) := by decide +kernel
theorem dX7_weighMinutes_76 : decode cX7_weighMinutes 76 = .ok (.getfield 293, 3) := by decide +kernel
theorem dX7_weighMinutes_79 : decode cX7_weighMinutes 79 = .ok (.if_icmp .le 14, 3) := by decide +kernel
theorem dX7_weighMinutes_82 : decode cX7_weighMinutes 82 = .ok (.aload_n 1, 1) := by decide +kernel
theorem dX7_weighMinutes_83 : decode cX7_weighMinutes 83 = .ok (.iload 4, 2) := by decide +kernel
theorem dX7_weighMinutes_85 : decode cX7_weighMinutes 85 = .ok (.putfield 293, 3) := by decide +kernel
theorem dX7_weighMinutes_88 : decode cX7_weighMinutes 88 = .ok (.aload_n 1, 1) := by decide +kernel
theorem dX7_weighMinutes_89 : decode cX7_weighMinutes 89 = .ok (.iload_n 3, 1) := by decide +kernel
theorem dX7_weighMinutes_90 : decode cX7_weighMinutes 90 = .ok (.putfield 296, 3) := by decide +kernel
theorem dX7_weighMinutes_93 : decode cX7_weighMinutes 93 = .ok (.iinc 3 1, 3) := by decide +kernel
theorem dX7_weighMinutes_96 : decode cX7_weighMinutes 96 = .ok (.goto (-43), 3) := by decide +kernel
theorem dX7_weighMinutes_99 : decode cX7_weighMinutes 99 = .ok (.return_, 1) := by decide +kernel
set_option maxHeartbeats 4000000 in
set_option maxRecDepth 100000 in
theorem t_X7_weighMinutes {l : Launch} {g : zG} {d : Nat} {s : zS} (hR : zRok s) {p0 : Nat} (hp0 : 104 ≤ p0 ∧ p0 < 164) {K : zS → Prop} (h : (if (s.1 p0 13) = (s.1 64 10) then K s else (zc l g d M_X7_fittingOf [.ref 64, .ref p0] s (zKi (fun r2 s1 => s1.2.2.1 = s.2.2.1 ∧ (if (2 : Int32) ≤ (zbc r2) then zt l g (d + 1) M_X7_weighMinutes 53 [.ref 64, .ref p0, .int r2, .int (s1.1 p0 1), zJ] [] (zI (zI (zI s1 p0 11 (0 : Int32)) p0 12 (s1.1 p0 1)) p0 13 (s1.1 64 10)) (zKv K) else K (zI (zI (zI s1 p0 11 (0 : Int32)) p0 12 (s1.1 p0 1)) p0 13 (s1.1 64 10)))))))) : zc l g (d + 1) M_X7_weighMinutes [.ref 64, .ref p0] s (zKv K) := by
  refine zCall_of k_X7_weighMinutes (Nat.le_of_ble_eq_true rfl) (Nat.le_refl _) (fun _ => ?_)
  show zt l g (d + 1) M_X7_weighMinutes 0 [.ref 64, .ref p0, zJ, zJ, zJ] [] s (zKv K)
  refine z_aload_n (i := 1) dX7_weighMinutes_0 rfl rfl rfl ?_
  refine z_getI (x := s.1 p0 13) rfl f_X7_233 (i_Te hp0) rfl dX7_weighMinutes_1 rfl ?_
  refine z_aload_n (i := 0) dX7_weighMinutes_4 rfl rfl rfl ?_
  refine z_getI (x := s.1 64 10) rfl f_X7_48 i_64 rfl dX7_weighMinutes_5 rfl ?_
  refine z_icmp_ne (pt := 12) dX7_weighMinutes_8 (by decide) rfl (fun c => ?_) (fun c => ?_)
  · have h := zif h c
    refine z_aload_n (i := 0) dX7_weighMinutes_12 rfl rfl rfl ?_
    refine z_aload_n (i := 1) dX7_weighMinutes_13 rfl rfl rfl ?_
    refine z_callV k_X7_fittingOf m_X7_242 (zRec_of i_64) rfl h rfl (Nat.le_of_ble_eq_true rfl) dX7_weighMinutes_14 zy200 rfl ?_
    rintro v s1 ⟨r2, rfl, hRs1, h⟩
    show zt l g (d + 1) M_X7_weighMinutes 17 [.ref 64, .ref p0, zJ, zJ, zJ] [.int r2] s1 _
    refine z_istore_n (i := 2) dX7_weighMinutes_17 rfl (by decide) (zokd rfl) rfl ?_
    show zt l g (d + 1) M_X7_weighMinutes 18 [.ref 64, .ref p0, .int r2, zJ, zJ] [] s1 _
    refine z_aload_n (i := 1) dX7_weighMinutes_18 rfl rfl rfl ?_
    refine z_iconst (v := (0 : Int32)) dX7_weighMinutes_19 (by decide) rfl ?_
    refine z_putI f_X7_293 (i_Te hp0) rfl (Or.inl rfl) rfl rfl dX7_weighMinutes_20 rfl ?_
    refine z_aload_n (i := 1) dX7_weighMinutes_23 rfl rfl rfl ?_
    refine z_aload_n (i := 1) dX7_weighMinutes_24 rfl rfl rfl ?_
    refine z_getI (x := s1.1 p0 1) (zI_k (by decide)) f_X7_206 (i_Te hp0) rfl dX7_weighMinutes_25 rfl ?_
    refine z_putI f_X7_296 (i_Te hp0) rfl (Or.inl rfl) rfl rfl dX7_weighMinutes_28 rfl ?_
    refine z_aload_n (i := 1) dX7_weighMinutes_31 rfl rfl rfl ?_
    refine z_aload_n (i := 0) dX7_weighMinutes_32 rfl rfl rfl ?_
    refine z_getI (x := s1.1 64 10) ((zI_k (by decide)).trans (zI_k (by decide))) f_X7_48 i_64 rfl dX7_weighMinutes_33 rfl ?_
    refine z_putI f_X7_233 (i_Te hp0) rfl (Or.inl rfl) rfl rfl dX7_weighMinutes_36 rfl ?_
    refine z_iload_n (i := 2) dX7_weighMinutes_39 rfl rfl rfl ?_
    refine z_bitc m_X7_245 dX7_weighMinutes_40 (Nat.le_of_ble_eq_true rfl) rfl ?_
    refine z_iconst (v := (2 : Int32)) dX7_weighMinutes_43 (by decide) rfl ?_
    refine z_icmp_ge (pt := 48) dX7_weighMinutes_44 (by decide) rfl (fun c => ?_) (fun c => ?_)
    · have h := zit h c
      refine z_aload_n (i := 1) dX7_weighMinutes_48 rfl rfl rfl ?_
      refine z_getI (x := s1.1 p0 1) ((zI_k (by decide)).trans ((zI_k (by decide)).trans (zI_k (by decide)))) f_X7_206 (i_Te hp0) rfl dX7_weighMinutes_49 rfl ?_
      refine z_istore_n (i := 3) dX7_weighMinutes_52 rfl (by decide) (zokd rfl) rfl ?_
      show zt l g (d + 1) M_X7_weighMinutes 53 [.ref 64, .ref p0, .int r2, .int (s1.1 p0 1), zJ] [] (zI (zI (zI s1 p0 11 (0 : Int32)) p0 12 (s1.1 p0 1)) p0 13 (s1.1 64 10)) _
      exact h
    · have h := zif h c
      exact z_ret none (Or.inl ⟨rfl, rfl, dX7_weighMinutes_47⟩) zN200 ⟨rfl, h⟩
  · have h := zit h c
    exact z_ret none (Or.inl ⟨rfl, rfl, dX7_weighMinutes_11⟩) zN200 ⟨rfl, h⟩
set_option maxHeartbeats 4000000 in
set_option maxRecDepth 100000 in
theorem t_X7_weighMinutes_53 {l : Launch} {g : zG} {d : Nat} {s : zS} (hR : zRok s) {x1 : Nat} (hx1 : 104 ≤ x1 ∧ x1 < 164) {x2 : Int32} {x3 : Int32} {K : zS → Prop} (h : (if (s.1 x1 2) < x3 then K s else (zc l g d M_X7_couplesParted [.ref 64, .int (s.1 x1 0), .int x2, .int x3] s (zKi (fun r2 s1 => s1.2.2.1 = s.2.2.1 ∧ (if r2 ≤ (s1.1 x1 11) then zt l g (d + 1) M_X7_weighMinutes 53 [.ref 64, .ref x1, .int x2, .int (x3 + (1 : Int32)), zJ] [] s1 (zKv K) else zt l g (d + 1) M_X7_weighMinutes 53 [.ref 64, .ref x1, .int x2, .int (x3 + (1 : Int32)), zJ] [] (zI (zI s1 x1 11 r2) x1 12 x3) (zKv K))))))) : zt l g (d + 1) M_X7_weighMinutes 53 [.ref 64, .ref x1, .int x2, .int x3, zJ] [] s (zKv K) := by
  refine z_iload_n (i := 3) dX7_weighMinutes_53 rfl rfl rfl ?_
  refine z_aload_n (i := 1) dX7_weighMinutes_54 rfl rfl rfl ?_
  refine z_getI (x := s.1 x1 2) rfl f_X7_209 (i_Te hx1) rfl dX7_weighMinutes_55 rfl ?_
  refine z_icmp_gt (pt := 99) dX7_weighMinutes_58 (by decide) rfl (fun c => ?_) (fun c => ?_)
  · have h := zit h c
    exact z_ret none (Or.inl ⟨rfl, rfl, dX7_weighMinutes_99⟩) zN200 ⟨rfl, h⟩
  · have h := zif h c
    refine z_aload_n (i := 0) dX7_weighMinutes_61 rfl rfl rfl ?_
    refine z_aload_n (i := 1) dX7_weighMinutes_62 rfl rfl rfl ?_
    refine z_getI (x := s.1 x1 0) rfl f_X7_203 (i_Te hx1) rfl dX7_weighMinutes_63 rfl ?_
    refine z_iload_n (i := 2) dX7_weighMinutes_66 rfl rfl rfl ?_
    refine z_iload_n (i := 3) dX7_weighMinutes_67 rfl rfl rfl ?_
    refine z_callV k_X7_couplesParted m_X7_373 (zRec_of i_64) rfl h rfl (Nat.le_of_ble_eq_true rfl) dX7_weighMinutes_68 zy200 rfl ?_
    rintro v s1 ⟨r2, rfl, hRs1, h⟩
    show zt l g (d + 1) M_X7_weighMinutes 71 [.ref 64, .ref x1, .int x2, .int x3, zJ] [.int r2] s1 _
    refine z_istore dX7_weighMinutes_71 (by decide) (zokd rfl) rfl ?_
    show zt l g (d + 1) M_X7_weighMinutes 73 [.ref 64, .ref x1, .int x2, .int x3, .int r2] [] s1 _
    refine z_iload dX7_weighMinutes_73 rfl rfl ?_
    refine z_aload_n (i := 1) dX7_weighMinutes_75 rfl rfl rfl ?_
    refine z_getI (x := s1.1 x1 11) rfl f_X7_293 (i_Te hx1) rfl dX7_weighMinutes_76 rfl ?_
    refine z_icmp_le (pt := 93) dX7_weighMinutes_79 (by decide) rfl (fun c => ?_) (fun c => ?_)
    · have h := zit h c
      refine z_iinc (v := x3 + (1 : Int32)) dX7_weighMinutes_93 rfl rfl (by decide) (zokd rfl) rfl ?_
      show zt l g (d + 1) M_X7_weighMinutes 96 [.ref 64, .ref x1, .int x2, .int (x3 + (1 : Int32)), .int r2] [] s1 _
      refine z_goto (pn := 53) dX7_weighMinutes_96 (by decide) ?_
      refine z_wk (ls' := [.ref 64, .ref x1, .int x2, .int (x3 + (1 : Int32)), zJ]) ⟨Or.inr rfl, Or.inr rfl, Or.inr rfl, Or.inr rfl, Or.inl rfl, trivial⟩ ?_
      exact h
    · have h := zif h c
      refine z_aload_n (i := 1) dX7_weighMinutes_82 rfl rfl rfl ?_
      refine z_iload dX7_weighMinutes_83 rfl rfl ?_
      refine z_putI f_X7_293 (i_Te hx1) rfl (Or.inl rfl) rfl rfl dX7_weighMinutes_85 rfl ?_
      refine z_aload_n (i := 1) dX7_weighMinutes_88 rfl rfl rfl ?_
      refine z_iload_n (i := 3) dX7_weighMinutes_89 rfl rfl rfl ?_
      refine z_putI f_X7_296 (i_Te hx1) rfl (Or.inl rfl) rfl rfl dX7_weighMinutes_90 rfl ?_
      refine z_iinc (v := x3 + (1 : Int32)) dX7_weighMinutes_93 rfl rfl (by decide) (zokd rfl) rfl ?_
      show zt l g (d + 1) M_X7_weighMinutes 96 [.ref 64, .ref x1, .int x2, .int (x3 + (1 : Int32)), .int r2] [] (zI (zI s1 x1 11 r2) x1 12 x3) _
      refine z_goto (pn := 53) dX7_weighMinutes_96 (by decide) ?_
      refine z_wk (ls' := [.ref 64, .ref x1, .int x2, .int (x3 + (1 : Int32)), zJ]) ⟨Or.inr rfl, Or.inr rfl, Or.inr rfl, Or.inr rfl, Or.inl rfl, trivial⟩ ?_
      exact h
theorem dX7_couplesParted_0 : decode cX7_couplesParted 0 = .ok (.iconst 0, 1) := by decide +kernel
theorem dX7_couplesParted_1 : decode cX7_couplesParted 1 = .ok (.istore 4, 2) := by decide +kernel
theorem dX7_couplesParted_3 : decode cX7_couplesParted 3 = .ok (.iconst 0, 1) := by decide +kernel
theorem dX7_couplesParted_4 : decode cX7_couplesParted 4 = .ok (.istore 5, 2) := by decide +kernel
theorem dX7_couplesParted_6 : decode cX7_couplesParted 6 = .ok (.iconst 0, 1) := by decide +kernel
theorem dX7_couplesParted_7 : decode cX7_couplesParted 7 = .ok (.istore 6, 2) := by decide +kernel
theorem dX7_couplesParted_9 : decode cX7_couplesParted 9 = .ok (.iload 6, 2) := by decide +kernel
theorem dX7_couplesParted_11 : decode cX7_couplesParted 11 = .ok (.aload_n 0, 1) := by decide +kernel
theorem dX7_couplesParted_12 : decode cX7_couplesParted 12 = .ok (.getfield 103, 3) := by decide +kernel
theorem dX7_couplesParted_15 : decode cX7_couplesParted 15 = .ok (.if_icmp .ge 103, 3) := by decide +kernel
theorem dX7_couplesParted_18 : decode cX7_couplesParted 18 = .ok (.iload_n 2, 1) := by decide +kernel
theorem dX7_couplesParted_19 : decode cX7_couplesParted 19 = .ok (.iload 6, 2) := by decide +kernel
theorem dX7_couplesParted_21 : decode cX7_couplesParted 21 = .ok (.ishr, 1) := by decide +kernel
theorem dX7_couplesParted_22 : decode cX7_couplesParted 22 = .ok (.iconst 1, 1) := by decide +kernel
theorem dX7_couplesParted_23 : decode cX7_couplesParted 23 = .ok (.iand, 1) := by decide +kernel
theorem dX7_couplesParted_24 : decode cX7_couplesParted 24 = .ok (.iconst 1, 1) := by decide +kernel
theorem dX7_couplesParted_25 : decode cX7_couplesParted 25 = .ok (.if_icmp .ne 87, 3) := by decide +kernel
theorem dX7_couplesParted_28 : decode cX7_couplesParted 28 = .ok (.aload_n 0, 1) := by decide +kernel
theorem dX7_couplesParted_29 : decode cX7_couplesParted 29 = .ok (.getfield 21, 3) := by decide +kernel
theorem dX7_couplesParted_32 : decode cX7_couplesParted 32 = .ok (.aload_n 0, 1) := by decide +kernel
theorem dX7_couplesParted_33 : decode cX7_couplesParted 33 = .ok (.getfield 31, 3) := by decide +kernel
theorem dX7_couplesParted_36 : decode cX7_couplesParted 36 = .ok (.iload 6, 2) := by decide +kernel
theorem dX7_couplesParted_38 : decode cX7_couplesParted 38 = .ok (.aaload, 1) := by decide +kernel
theorem dX7_couplesParted_39 : decode cX7_couplesParted 39 = .ok (.aload_n 0, 1) := by decide +kernel
theorem dX7_couplesParted_40 : decode cX7_couplesParted 40 = .ok (.getfield 25, 3) := by decide +kernel
theorem dX7_couplesParted_43 : decode cX7_couplesParted 43 = .ok (.iload_n 1, 1) := by decide +kernel
theorem dX7_couplesParted_44 : decode cX7_couplesParted 44 = .ok (.iaload, 1) := by decide +kernel
theorem dX7_couplesParted_45 : decode cX7_couplesParted 45 = .ok (.iload_n 3, 1) := by decide +kernel
theorem dX7_couplesParted_46 : decode cX7_couplesParted 46 = .ok (.invokevirtual 275, 3) := by decide +kernel
theorem dX7_couplesParted_49 : decode cX7_couplesParted 49 = .ok (.ifCond .eq 63, 3) := by decide +kernel
theorem dX7_couplesParted_52 : decode cX7_couplesParted 52 = .ok (.iconst 0, 1) := by decide +kernel
theorem dX7_couplesParted_53 : decode cX7_couplesParted 53 = .ok (.istore 7, 2) := by decide +kernel
theorem dX7_couplesParted_55 : decode cX7_couplesParted 55 = .ok (.iload 7, 2) := by decide +kernel
theorem dX7_couplesParted_57 : decode cX7_couplesParted 57 = .ok (.iload 4, 2) := by decide +kernel
theorem dX7_couplesParted_59 : decode cX7_couplesParted 59 = .ok (.if_icmp .ge 36, 3) := by decide +kernel
theorem dX7_couplesParted_62 : decode cX7_couplesParted 62 = .ok (.aload_n 0, 1) := by decide +kernel
theorem dX7_couplesParted_63 : decode cX7_couplesParted 63 = .ok (.getfield 51, 3) := by decide +kernel
theorem dX7_couplesParted_66 : decode cX7_couplesParted 66 = .ok (.iload 7, 2) := by decide +kernel
theorem dX7_couplesParted_68 : decode cX7_couplesParted 68 = .ok (.iaload, 1) := by decide +kernel
theorem dX7_couplesParted_69 : decode cX7_couplesParted 69 = .ok (.aload_n 0, 1) := by decide +kernel
theorem dX7_couplesParted_70 : decode cX7_couplesParted 70 = .ok (.getfield 21, 3) := by decide +kernel
theorem dX7_couplesParted_73 : decode cX7_couplesParted 73 = .ok (.getfield 192, 3) := by decide +kernel
theorem dX7_couplesParted_76 : decode cX7_couplesParted 76 = .ok (.invokestatic 367, 3) := by decide +kernel
theorem dX7_couplesParted_79 : decode cX7_couplesParted 79 = .ok (.aload_n 0, 1) := by decide +kernel
theorem dX7_couplesParted_80 : decode cX7_couplesParted 80 = .ok (.getfield 41, 3) := by decide +kernel
theorem dX7_couplesParted_83 : decode cX7_couplesParted 83 = .ok (.if_icmp .le 6, 3) := by decide +kernel
theorem dX7_couplesParted_86 : decode cX7_couplesParted 86 = .ok (.iinc 5 1, 3) := by decide +kernel
theorem dX7_couplesParted_89 : decode cX7_couplesParted 89 = .ok (.iinc 7 1, 3) := by decide +kernel
theorem dX7_couplesParted_92 : decode cX7_couplesParted 92 = .ok (.goto (-37), 3) := by decide +kernel
theorem dX7_couplesParted_95 : decode cX7_couplesParted 95 = .ok (.aload_n 0, 1) := by decide +kernel
theorem dX7_couplesParted_96 : decode cX7_couplesParted 96 = .ok (.getfield 51, 3) := by decide +kernel
theorem dX7_couplesParted_99 : decode cX7_couplesParted 99 = .ok (.iload 4, 2) := by decide +kernel
theorem dX7_couplesParted_101 : decode cX7_couplesParted 101 = .ok (.aload_n 0, 1) := by decide +kernel
theorem dX7_couplesParted_102 : decode cX7_couplesParted 102 = .ok (.getfield 21, 3) := by decide +kernel
theorem dX7_couplesParted_105 : decode cX7_couplesParted 105 = .ok (.getfield 192, 3) := by decide +kernel
theorem dX7_couplesParted_108 : decode cX7_couplesParted 108 = .ok (.iastore, 1) := by decide +kernel
theorem dX7_couplesParted_109 : decode cX7_couplesParted 109 = .ok (.iinc 4 1, 3) := by decide +kernel
theorem dX7_couplesParted_112 : decode cX7_couplesParted 112 = .ok (.iinc 6 1, 3) := by decide +kernel
theorem dX7_couplesParted_115 : decode cX7_couplesParted 115 = .ok (.goto (-106), 3) := by decide +kernel
theorem dX7_couplesParted_118 : decode cX7_couplesParted 118 = .ok (.iload 5, 2) := by decide +kernel
theorem dX7_couplesParted_120 : decode cX7_couplesParted 120 = .ok (.iload 4, 2) := by decide +kernel
theorem dX7_couplesParted_122 : decode cX7_couplesParted 122 = .ok (.iload_n 2, 1) := by decide +kernel
theorem dX7_couplesParted_123 : decode cX7_couplesParted 123 = .ok (.invokestatic 245, 3) := by decide +kernel
theorem dX7_couplesParted_126 : decode cX7_couplesParted 126 = .ok (.iload 4, 2) := by decide +kernel
theorem dX7_couplesParted_128 : decode cX7_couplesParted 128 = .ok (.isub, 1) := by decide +kernel
theorem dX7_couplesParted_129 : decode cX7_couplesParted 129 = .ok (.imul, 1) := by decide +kernel
theorem dX7_couplesParted_130 : decode cX7_couplesParted 130 = .ok (.iadd, 1) := by decide +kernel
theorem dX7_couplesParted_131 : decode cX7_couplesParted 131 = .ok (.ireturn, 1) := by decide +kernel
set_option maxHeartbeats 4000000 in
set_option maxRecDepth 100000 in
theorem t_X7_couplesParted {l : Launch} {g : zG} {d : Nat} {s : zS} (hR : zRok s) {p0 : Int32} {p1 : Int32} {p2 : Int32} {K : Int32 → zS → Prop} (h : zt l g (d + 1) M_X7_couplesParted 9 [.ref 64, .int p0, .int p1, .int p2, .int (0 : Int32), .int (0 : Int32), .int (0 : Int32), zJ] [] s (zKi K)) : zc l g (d + 1) M_X7_couplesParted [.ref 64, .int p0, .int p1, .int p2] s (zKi K) := by
  refine zCall_of k_X7_couplesParted (Nat.le_of_ble_eq_true rfl) (Nat.le_refl _) (fun _ => ?_)
  show zt l g (d + 1) M_X7_couplesParted 0 [.ref 64, .int p0, .int p1, .int p2, zJ, zJ, zJ, zJ] [] s (zKi K)
  refine z_iconst (v := (0 : Int32)) dX7_couplesParted_0 (by decide) rfl ?_
  refine z_istore dX7_couplesParted_1 (by decide) (zokd rfl) rfl ?_
  show zt l g (d + 1) M_X7_couplesParted 3 [.ref 64, .int p0, .int p1, .int p2, .int (0 : Int32), zJ, zJ, zJ] [] s _
  refine z_iconst (v := (0 : Int32)) dX7_couplesParted_3 (by decide) rfl ?_
  refine z_istore dX7_couplesParted_4 (by decide) (zokd rfl) rfl ?_
  show zt l g (d + 1) M_X7_couplesParted 6 [.ref 64, .int p0, .int p1, .int p2, .int (0 : Int32), .int (0 : Int32), zJ, zJ] [] s _
  refine z_iconst (v := (0 : Int32)) dX7_couplesParted_6 (by decide) rfl ?_
  refine z_istore dX7_couplesParted_7 (by decide) (zokd rfl) rfl ?_
  show zt l g (d + 1) M_X7_couplesParted 9 [.ref 64, .int p0, .int p1, .int p2, .int (0 : Int32), .int (0 : Int32), .int (0 : Int32), zJ] [] s _
  exact h
set_option maxHeartbeats 4000000 in
set_option maxRecDepth 100000 in
theorem t_X7_couplesParted_9 {l : Launch} {g : zG} {d : Nat} {s : zS} (hR : zRok s) {x1 : Int32} {x2 : Int32} {x3 : Int32} {x4 : Int32} {x5 : Int32} {x6 : Int32} {K : Int32 → zS → Prop} (h : (if (s.1 64 5) ≤ x6 then K (x5 + (x4 * ((zbc x2) - x4))) s else (if ((x2 >>> (x6 &&& 31)) &&& (1 : Int32)) = (1 : Int32) then (vp_in x6 12 ∧ (vp_in x1 20 ∧ (zc l g d M_X4_shows [.ref 68, .ref (92 + x6.toNatClampNeg), .int (s.1 69 x1.toNatClampNeg), .int x3] s (zKz (fun b4 s3 => s3.2.2.1 = s.2.2.1 ∧ (if b4 = true then zt l g (d + 1) M_X7_couplesParted 55 [.ref 64, .int x1, .int x2, .int x3, .int x4, .int x5, .int x6, .int (0 : Int32)] [] s3 (zKi K) else zt l g (d + 1) M_X7_couplesParted 9 [.ref 64, .int x1, .int x2, .int x3, .int x4, .int x5, .int (x6 + (1 : Int32)), zJ] [] s3 (zKi K))))))) else zt l g (d + 1) M_X7_couplesParted 9 [.ref 64, .int x1, .int x2, .int x3, .int x4, .int x5, .int (x6 + (1 : Int32)), zJ] [] s (zKi K)))) : zt l g (d + 1) M_X7_couplesParted 9 [.ref 64, .int x1, .int x2, .int x3, .int x4, .int x5, .int x6, zJ] [] s (zKi K) := by
  refine z_iload dX7_couplesParted_9 rfl rfl ?_
  refine z_aload_n (i := 0) dX7_couplesParted_11 rfl rfl rfl ?_
  refine z_getI (x := s.1 64 5) rfl f_X7_103 i_64 rfl dX7_couplesParted_12 rfl ?_
  refine z_icmp_ge (pt := 118) dX7_couplesParted_15 (by decide) rfl (fun c => ?_) (fun c => ?_)
  · have h := zit h c
    refine z_iload dX7_couplesParted_118 rfl rfl ?_
    refine z_iload dX7_couplesParted_120 rfl rfl ?_
    refine z_iload_n (i := 2) dX7_couplesParted_122 rfl rfl rfl ?_
    refine z_bitc m_X7_245 dX7_couplesParted_123 (Nat.le_of_ble_eq_true rfl) rfl ?_
    refine z_iload dX7_couplesParted_126 rfl rfl ?_
    refine z_isub dX7_couplesParted_128 rfl ?_
    refine z_imul dX7_couplesParted_129 rfl ?_
    refine z_iadd dX7_couplesParted_130 rfl ?_
    exact z_ret (some (.int (x5 + (x4 * ((zbc x2) - x4))))) (Or.inr (Or.inl ⟨_, _, rfl, rfl, rfl, dX7_couplesParted_131⟩)) zN200 ⟨_, rfl, h⟩
  · have h := zif h c
    refine z_iload_n (i := 2) dX7_couplesParted_18 rfl rfl rfl ?_
    refine z_iload dX7_couplesParted_19 rfl rfl ?_
    refine z_ishr dX7_couplesParted_21 rfl ?_
    refine z_iconst (v := (1 : Int32)) dX7_couplesParted_22 (by decide) rfl ?_
    refine z_iand dX7_couplesParted_23 rfl ?_
    refine z_iconst (v := (1 : Int32)) dX7_couplesParted_24 (by decide) rfl ?_
    refine z_icmp_ne (pt := 112) dX7_couplesParted_25 (by decide) rfl (fun c => ?_) (fun c => ?_)
    · have h := zif h c
      refine z_iinc (v := x6 + (1 : Int32)) dX7_couplesParted_112 rfl rfl (by decide) (zokd rfl) rfl ?_
      show zt l g (d + 1) M_X7_couplesParted 115 [.ref 64, .int x1, .int x2, .int x3, .int x4, .int x5, .int (x6 + (1 : Int32)), zJ] [] s _
      refine z_goto (pn := 9) dX7_couplesParted_115 (by decide) ?_
      exact h
    · have h := zit h c
      refine z_aload_n (i := 0) dX7_couplesParted_28 rfl rfl rfl ?_
      refine z_getR (q := 68) f_X7_21 i_64 rfl (r_64_1 hR) (by decide) dX7_couplesParted_29 rfl ?_
      refine z_aload_n (i := 0) dX7_couplesParted_32 rfl rfl rfl ?_
      refine z_getR (q := 70) f_X7_31 i_64 rfl (r_64_4 hR) (by decide) dX7_couplesParted_33 rfl ?_
      refine z_iload dX7_couplesParted_36 rfl rfl ?_
      obtain ⟨a1, h⟩ := h
      have wa1 := vin a1
      refine z_aald (q := 92 + x6.toNatClampNeg) (by decide) a_70 a1 (r_70 hR a1) (by omega) dX7_couplesParted_38 rfl ?_
      refine z_aload_n (i := 0) dX7_couplesParted_39 rfl rfl rfl ?_
      refine z_getR (q := 69) f_X7_25 i_64 rfl (r_64_2 hR) (by decide) dX7_couplesParted_40 rfl ?_
      refine z_iload_n (i := 1) dX7_couplesParted_43 rfl rfl rfl ?_
      obtain ⟨a2, h⟩ := h
      have wa2 := vin a2
      refine z_iald (x := s.1 69 x1.toNatClampNeg) rfl a_69 a2 dX7_couplesParted_44 rfl ?_
      refine z_iload_n (i := 3) dX7_couplesParted_45 rfl rfl rfl ?_
      refine z_callV k_X4_shows m_X7_275 (zRec_of i_68) rfl h rfl (Nat.le_of_ble_eq_true rfl) dX7_couplesParted_46 zy200 rfl ?_
      rintro v s3 ⟨b4, rfl, hRs3, h⟩
      show zt l g (d + 1) M_X7_couplesParted 49 [.ref 64, .int x1, .int x2, .int x3, .int x4, .int x5, .int x6, zJ] [.int (zb b4)] s3 _
      refine z_ifb_eq (pt := 112) dX7_couplesParted_49 (by decide) rfl (fun c => ?_) (fun c => ?_)
      · have h := zif h (by rw [c]; exact Bool.false_ne_true)
        refine z_iinc (v := x6 + (1 : Int32)) dX7_couplesParted_112 rfl rfl (by decide) (zokd rfl) rfl ?_
        show zt l g (d + 1) M_X7_couplesParted 115 [.ref 64, .int x1, .int x2, .int x3, .int x4, .int x5, .int (x6 + (1 : Int32)), zJ] [] s3 _
        refine z_goto (pn := 9) dX7_couplesParted_115 (by decide) ?_
        exact h
      · have h := zit h c
        refine z_iconst (v := (0 : Int32)) dX7_couplesParted_52 (by decide) rfl ?_
        refine z_istore dX7_couplesParted_53 (by decide) (zokd rfl) rfl ?_
        show zt l g (d + 1) M_X7_couplesParted 55 [.ref 64, .int x1, .int x2, .int x3, .int x4, .int x5, .int x6, .int (0 : Int32)] [] s3 _
        exact h
set_option maxHeartbeats 4000000 in
set_option maxRecDepth 100000 in
theorem t_X7_couplesParted_55 {l : Launch} {g : zG} {d : Nat} {s : zS} (hR : zRok s) {x1 : Int32} {x2 : Int32} {x3 : Int32} {x4 : Int32} {x5 : Int32} {x6 : Int32} {x7 : Int32} {K : Int32 → zS → Prop} (h : (if x4 ≤ x7 then (vp_in x4 12 ∧ zt l g (d + 1) M_X7_couplesParted 9 [.ref 64, .int x1, .int x2, .int x3, .int (x4 + (1 : Int32)), .int x5, .int (x6 + (1 : Int32)), zJ] [] (zI s 72 x4.toNatClampNeg (s.1 68 1)) (zKi K)) else (vp_in x7 12 ∧ (zc l g d M_X7_apart [.int (s.1 72 x7.toNatClampNeg), .int (s.1 68 1)] s (zKi (fun r4 s3 => s3.2.2.1 = s.2.2.1 ∧ (if r4 ≤ (s3.1 64 8) then zt l g (d + 1) M_X7_couplesParted 55 [.ref 64, .int x1, .int x2, .int x3, .int x4, .int x5, .int x6, .int (x7 + (1 : Int32))] [] s3 (zKi K) else zt l g (d + 1) M_X7_couplesParted 55 [.ref 64, .int x1, .int x2, .int x3, .int x4, .int (x5 + (1 : Int32)), .int x6, .int (x7 + (1 : Int32))] [] s3 (zKi K)))))))) : zt l g (d + 1) M_X7_couplesParted 55 [.ref 64, .int x1, .int x2, .int x3, .int x4, .int x5, .int x6, .int x7] [] s (zKi K) := by
  refine z_iload dX7_couplesParted_55 rfl rfl ?_
  refine z_iload dX7_couplesParted_57 rfl rfl ?_
  refine z_icmp_ge (pt := 95) dX7_couplesParted_59 (by decide) rfl (fun c => ?_) (fun c => ?_)
  · have h := zit h c
    refine z_aload_n (i := 0) dX7_couplesParted_95 rfl rfl rfl ?_
    refine z_getR (q := 72) f_X7_51 i_64 rfl (r_64_11 hR) (by decide) dX7_couplesParted_96 rfl ?_
    refine z_iload dX7_couplesParted_99 rfl rfl ?_
    refine z_aload_n (i := 0) dX7_couplesParted_101 rfl rfl rfl ?_
    refine z_getR (q := 68) f_X7_21 i_64 rfl (r_64_1 hR) (by decide) dX7_couplesParted_102 rfl ?_
    refine z_getI (x := s.1 68 1) rfl f_X7_192 i_68 rfl dX7_couplesParted_105 rfl ?_
    obtain ⟨a1, h⟩ := h
    have wa1 := vin a1
    refine z_iast a_72 a1 dX7_couplesParted_108 rfl ?_
    show zt l g (d + 1) M_X7_couplesParted 109 [.ref 64, .int x1, .int x2, .int x3, .int x4, .int x5, .int x6, .int x7] [] (zI s 72 x4.toNatClampNeg (s.1 68 1)) _
    refine z_iinc (v := x4 + (1 : Int32)) dX7_couplesParted_109 rfl rfl (by decide) (zokd rfl) rfl ?_
    show zt l g (d + 1) M_X7_couplesParted 112 [.ref 64, .int x1, .int x2, .int x3, .int (x4 + (1 : Int32)), .int x5, .int x6, .int x7] [] (zI s 72 x4.toNatClampNeg (s.1 68 1)) _
    refine z_iinc (v := x6 + (1 : Int32)) dX7_couplesParted_112 rfl rfl (by decide) (zokd rfl) rfl ?_
    show zt l g (d + 1) M_X7_couplesParted 115 [.ref 64, .int x1, .int x2, .int x3, .int (x4 + (1 : Int32)), .int x5, .int (x6 + (1 : Int32)), .int x7] [] (zI s 72 x4.toNatClampNeg (s.1 68 1)) _
    refine z_goto (pn := 9) dX7_couplesParted_115 (by decide) ?_
    refine z_wk (ls' := [.ref 64, .int x1, .int x2, .int x3, .int (x4 + (1 : Int32)), .int x5, .int (x6 + (1 : Int32)), zJ]) ⟨Or.inr rfl, Or.inr rfl, Or.inr rfl, Or.inr rfl, Or.inr rfl, Or.inr rfl, Or.inr rfl, Or.inl rfl, trivial⟩ ?_
    exact h
  · have h := zif h c
    refine z_aload_n (i := 0) dX7_couplesParted_62 rfl rfl rfl ?_
    refine z_getR (q := 72) f_X7_51 i_64 rfl (r_64_11 hR) (by decide) dX7_couplesParted_63 rfl ?_
    refine z_iload dX7_couplesParted_66 rfl rfl ?_
    obtain ⟨a2, h⟩ := h
    have wa2 := vin a2
    refine z_iald (x := s.1 72 x7.toNatClampNeg) rfl a_72 a2 dX7_couplesParted_68 rfl ?_
    refine z_aload_n (i := 0) dX7_couplesParted_69 rfl rfl rfl ?_
    refine z_getR (q := 68) f_X7_21 i_64 rfl (r_64_1 hR) (by decide) dX7_couplesParted_70 rfl ?_
    refine z_getI (x := s.1 68 1) rfl f_X7_192 i_68 rfl dX7_couplesParted_73 rfl ?_
    refine z_callS (as := [.int (s.1 72 x7.toNatClampNeg), .int (s.1 68 1)]) k_X7_apart m_X7_367 rfl h rfl (Nat.le_of_ble_eq_true rfl) dX7_couplesParted_76 zy200 rfl ?_
    rintro v s3 ⟨r4, rfl, hRs3, h⟩
    show zt l g (d + 1) M_X7_couplesParted 79 [.ref 64, .int x1, .int x2, .int x3, .int x4, .int x5, .int x6, .int x7] [.int r4] s3 _
    refine z_aload_n (i := 0) dX7_couplesParted_79 rfl rfl rfl ?_
    refine z_getI (x := s3.1 64 8) rfl f_X7_41 i_64 rfl dX7_couplesParted_80 rfl ?_
    refine z_icmp_le (pt := 89) dX7_couplesParted_83 (by decide) rfl (fun c => ?_) (fun c => ?_)
    · have h := zit h c
      refine z_iinc (v := x7 + (1 : Int32)) dX7_couplesParted_89 rfl rfl (by decide) (zokd rfl) rfl ?_
      show zt l g (d + 1) M_X7_couplesParted 92 [.ref 64, .int x1, .int x2, .int x3, .int x4, .int x5, .int x6, .int (x7 + (1 : Int32))] [] s3 _
      refine z_goto (pn := 55) dX7_couplesParted_92 (by decide) ?_
      exact h
    · have h := zif h c
      refine z_iinc (v := x5 + (1 : Int32)) dX7_couplesParted_86 rfl rfl (by decide) (zokd rfl) rfl ?_
      show zt l g (d + 1) M_X7_couplesParted 89 [.ref 64, .int x1, .int x2, .int x3, .int x4, .int (x5 + (1 : Int32)), .int x6, .int x7] [] s3 _
      refine z_iinc (v := x7 + (1 : Int32)) dX7_couplesParted_89 rfl rfl (by decide) (zokd rfl) rfl ?_
      show zt l g (d + 1) M_X7_couplesParted 92 [.ref 64, .int x1, .int x2, .int x3, .int x4, .int (x5 + (1 : Int32)), .int x6, .int (x7 + (1 : Int32))] [] s3 _
      refine z_goto (pn := 55) dX7_couplesParted_92 (by decide) ?_
      exact h
theorem dX7_pointsAt_0 : decode cX7_pointsAt 0 = .ok (.aload_n 0, 1) := by decide +kernel
theorem dX7_pointsAt_1 : decode cX7_pointsAt 1 = .ok (.getfield 25, 3) := by decide +kernel
theorem dX7_pointsAt_4 : decode cX7_pointsAt 4 = .ok (.aload_n 1, 1) := by decide +kernel
theorem dX7_pointsAt_5 : decode cX7_pointsAt 5 = .ok (.getfield 203, 3) := by decide +kernel
theorem dX7_pointsAt_8 : decode cX7_pointsAt 8 = .ok (.iaload, 1) := by decide +kernel
theorem dX7_pointsAt_9 : decode cX7_pointsAt 9 = .ok (.istore_n 3, 1) := by decide +kernel
theorem dX7_pointsAt_10 : decode cX7_pointsAt 10 = .ok (.iload_n 3, 1) := by decide +kernel
theorem dX7_pointsAt_11 : decode cX7_pointsAt 11 = .ok (.iload_n 2, 1) := by decide +kernel
theorem dX7_pointsAt_12 : decode cX7_pointsAt 12 = .ok (.if_icmp .ne 5, 3) := by decide +kernel
theorem dX7_pointsAt_15 : decode cX7_pointsAt 15 = .ok (.iconst 0, 1) := by decide +kernel
theorem dX7_pointsAt_16 : decode cX7_pointsAt 16 = .ok (.ireturn, 1) := by decide +kernel
theorem dX7_pointsAt_17 : decode cX7_pointsAt 17 = .ok (.iload_n 2, 1) := by decide +kernel
theorem dX7_pointsAt_18 : decode cX7_pointsAt 18 = .ok (.bipush 64, 2) := by decide +kernel
theorem dX7_pointsAt_20 : decode cX7_pointsAt 20 = .ok (.idiv, 1) := by decide +kernel
theorem dX7_pointsAt_21 : decode cX7_pointsAt 21 = .ok (.iload_n 3, 1) := by decide +kernel
theorem dX7_pointsAt_22 : decode cX7_pointsAt 22 = .ok (.bipush 64, 2) := by decide +kernel
theorem dX7_pointsAt_24 : decode cX7_pointsAt 24 = .ok (.idiv, 1) := by decide +kernel
theorem dX7_pointsAt_25 : decode cX7_pointsAt 25 = .ok (.isub, 1) := by decide +kernel
theorem dX7_pointsAt_26 : decode cX7_pointsAt 26 = .ok (.iload_n 2, 1) := by decide +kernel
theorem dX7_pointsAt_27 : decode cX7_pointsAt 27 = .ok (.bipush 64, 2) := by decide +kernel
theorem dX7_pointsAt_29 : decode cX7_pointsAt 29 = .ok (.irem, 1) := by decide +kernel
theorem dX7_pointsAt_30 : decode cX7_pointsAt 30 = .ok (.iload_n 3, 1) := by decide +kernel
theorem dX7_pointsAt_31 : decode cX7_pointsAt 31 = .ok (.bipush 64, 2) := by decide +kernel
theorem dX7_pointsAt_33 : decode cX7_pointsAt 33 = .ok (.irem, 1) := by decide +kernel
theorem dX7_pointsAt_34 : decode cX7_pointsAt 34 = .ok (.isub, 1) := by decide +kernel
theorem dX7_pointsAt_35 : decode cX7_pointsAt 35 = .ok (.invokestatic 376, 3) := by decide +kernel
theorem dX7_pointsAt_38 : decode cX7_pointsAt 38 = .ok (.istore 4, 2) := by decide +kernel
theorem dX7_pointsAt_40 : decode cX7_pointsAt 40 = .ok (.iload 4, 2) := by decide +kernel
theorem dX7_pointsAt_42 : decode cX7_pointsAt 42 = .ok (.aload_n 1, 1) := by decide +kernel
theorem dX7_pointsAt_43 : decode cX7_pointsAt 43 = .ok (.getfield 212, 3) := by decide +kernel
theorem dX7_pointsAt_46 : decode cX7_pointsAt 46 = .ok (.invokestatic 367, 3) := by decide +kernel
theorem dX7_pointsAt_49 : decode cX7_pointsAt 49 = .ok (.aload_n 0, 1) := by decide +kernel
theorem dX7_pointsAt_50 : decode cX7_pointsAt 50 = .ok (.getfield 41, 3) := by decide +kernel
theorem dX7_pointsAt_53 : decode cX7_pointsAt 53 = .ok (.if_icmp .gt 7, 3) := by decide +kernel
theorem dX7_pointsAt_56 : decode cX7_pointsAt 56 = .ok (.iconst 1, 1) := by decide +kernel
theorem dX7_pointsAt_57 : decode cX7_pointsAt 57 = .ok (.goto 4, 3) := by decide +kernel
theorem dX7_pointsAt_60 : decode cX7_pointsAt 60 = .ok (.iconst 0, 1) := by decide +kernel
theorem dX7_pointsAt_61 : decode cX7_pointsAt 61 = .ok (.ireturn, 1) := by decide +kernel
set_option maxHeartbeats 4000000 in
set_option maxRecDepth 100000 in
theorem t_X7_pointsAt {l : Launch} {g : zG} {d : Nat} {s : zS} (hR : zRok s) {p0 : Nat} (hp0 : 104 ≤ p0 ∧ p0 < 164) {p1 : Int32} {K : Bool → zS → Prop} (h : (vp_in (s.1 p0 0) 20 ∧ (∀ v2 : Int32, v2 = s.1 69 ((s.1 p0 0).toNatClampNeg) → (if v2 = p1 then K false s else (zc l g d M_X7_wayOf [.int ((p1 / (64 : Int32)) - (v2 / (64 : Int32))), .int ((p1 % (64 : Int32)) - (v2 % (64 : Int32)))] s (zKi (fun r4 s3 => s3.2.2.1 = s.2.2.1 ∧ (zc l g d M_X7_apart [.int r4, .int (s3.1 p0 3)] s3 (zKi (fun r6 s5 => s5.2.2.1 = s3.2.2.1 ∧ (if (s5.1 64 8) < r6 then K false s5 else K true s5))))))))))) : zc l g (d + 1) M_X7_pointsAt [.ref 64, .ref p0, .int p1] s (zKz K) := by
  refine zCall_of k_X7_pointsAt (Nat.le_of_ble_eq_true rfl) (Nat.le_refl _) (fun _ => ?_)
  show zt l g (d + 1) M_X7_pointsAt 0 [.ref 64, .ref p0, .int p1, zJ, zJ] [] s (zKz K)
  refine z_aload_n (i := 0) dX7_pointsAt_0 rfl rfl rfl ?_
  refine z_getR (q := 69) f_X7_25 i_64 rfl (r_64_2 hR) (by decide) dX7_pointsAt_1 rfl ?_
  refine z_aload_n (i := 1) dX7_pointsAt_4 rfl rfl rfl ?_
  refine z_getI (x := s.1 p0 0) rfl f_X7_203 (i_Te hp0) rfl dX7_pointsAt_5 rfl ?_
  obtain ⟨a1, h⟩ := h
  have wa1 := vin a1
  refine z_iald (x := s.1 69 ((s.1 p0 0).toNatClampNeg)) rfl a_69 a1 dX7_pointsAt_8 rfl ?_
  refine z_istore_n (i := 3) dX7_pointsAt_9 rfl (by decide) (zokd rfl) rfl ?_
  obtain ⟨v2, ev2⟩ : ∃ x : Int32, x = s.1 69 ((s.1 p0 0).toNatClampNeg) := ⟨_, rfl⟩
  rw [← ev2]
  have h := h v2 ev2
  show zt l g (d + 1) M_X7_pointsAt 10 [.ref 64, .ref p0, .int p1, .int v2, zJ] [] s _
  refine z_iload_n (i := 3) dX7_pointsAt_10 rfl rfl rfl ?_
  refine z_iload_n (i := 2) dX7_pointsAt_11 rfl rfl rfl ?_
  refine z_icmp_ne (pt := 17) dX7_pointsAt_12 (by decide) rfl (fun c => ?_) (fun c => ?_)
  · have h := zif h c
    refine z_iload_n (i := 2) dX7_pointsAt_17 rfl rfl rfl ?_
    refine z_bipush (v := (64 : Int32)) dX7_pointsAt_18 (by decide) rfl ?_
    refine z_idiv dX7_pointsAt_20 (by decide) rfl ?_
    refine z_iload_n (i := 3) dX7_pointsAt_21 rfl rfl rfl ?_
    refine z_bipush (v := (64 : Int32)) dX7_pointsAt_22 (by decide) rfl ?_
    refine z_idiv dX7_pointsAt_24 (by decide) rfl ?_
    refine z_isub dX7_pointsAt_25 rfl ?_
    refine z_iload_n (i := 2) dX7_pointsAt_26 rfl rfl rfl ?_
    refine z_bipush (v := (64 : Int32)) dX7_pointsAt_27 (by decide) rfl ?_
    refine z_irem dX7_pointsAt_29 (by decide) rfl ?_
    refine z_iload_n (i := 3) dX7_pointsAt_30 rfl rfl rfl ?_
    refine z_bipush (v := (64 : Int32)) dX7_pointsAt_31 (by decide) rfl ?_
    refine z_irem dX7_pointsAt_33 (by decide) rfl ?_
    refine z_isub dX7_pointsAt_34 rfl ?_
    refine z_callS (as := [.int ((p1 / (64 : Int32)) - (v2 / (64 : Int32))), .int ((p1 % (64 : Int32)) - (v2 % (64 : Int32)))]) k_X7_wayOf m_X7_376 rfl h rfl (Nat.le_of_ble_eq_true rfl) dX7_pointsAt_35 zy200 rfl ?_
    rintro v s3 ⟨r4, rfl, hRs3, h⟩
    show zt l g (d + 1) M_X7_pointsAt 38 [.ref 64, .ref p0, .int p1, .int v2, zJ] [.int r4] s3 _
    refine z_istore dX7_pointsAt_38 (by decide) (zokd rfl) rfl ?_
    show zt l g (d + 1) M_X7_pointsAt 40 [.ref 64, .ref p0, .int p1, .int v2, .int r4] [] s3 _
    refine z_iload dX7_pointsAt_40 rfl rfl ?_
    refine z_aload_n (i := 1) dX7_pointsAt_42 rfl rfl rfl ?_
    refine z_getI (x := s3.1 p0 3) rfl f_X7_212 (i_Te hp0) rfl dX7_pointsAt_43 rfl ?_
    refine z_callS (as := [.int r4, .int (s3.1 p0 3)]) k_X7_apart m_X7_367 rfl h rfl (Nat.le_of_ble_eq_true rfl) dX7_pointsAt_46 zy200 rfl ?_
    rintro v s5 ⟨r6, rfl, hRs5, h⟩
    show zt l g (d + 1) M_X7_pointsAt 49 [.ref 64, .ref p0, .int p1, .int v2, .int r4] [.int r6] s5 _
    refine z_aload_n (i := 0) dX7_pointsAt_49 rfl rfl rfl ?_
    refine z_getI (x := s5.1 64 8) rfl f_X7_41 i_64 rfl dX7_pointsAt_50 rfl ?_
    refine z_icmp_gt (pt := 60) dX7_pointsAt_53 (by decide) rfl (fun c => ?_) (fun c => ?_)
    · have h := zit h c
      refine z_iconst (v := (0 : Int32)) dX7_pointsAt_60 (by decide) rfl ?_
      exact z_ret (some (.int (zb false))) (Or.inr (Or.inl ⟨_, _, rfl, rfl, zb_nar _, dX7_pointsAt_61⟩)) zN200 ⟨_, rfl, h⟩
    · have h := zif h c
      refine z_iconst (v := (1 : Int32)) dX7_pointsAt_56 (by decide) rfl ?_
      refine z_goto (pn := 61) dX7_pointsAt_57 (by decide) ?_
      exact z_ret (some (.int (zb true))) (Or.inr (Or.inl ⟨_, _, rfl, rfl, zb_nar _, dX7_pointsAt_61⟩)) zN200 ⟨_, rfl, h⟩
  · have h := zit h c
    refine z_iconst (v := (0 : Int32)) dX7_pointsAt_15 (by decide) rfl ?_
    exact z_ret (some (.int (zb false))) (Or.inr (Or.inl ⟨_, _, rfl, rfl, zb_nar _, dX7_pointsAt_16⟩)) zN200 ⟨_, rfl, h⟩
theorem dX7_shareHeight_0 : decode cX7_shareHeight 0 = .ok (.iconst 0, 1) := by decide +kernel
theorem dX7_shareHeight_1 : decode cX7_shareHeight 1 = .ok (.aload_n 0, 1) := by decide +kernel
theorem dX7_shareHeight_2 : decode cX7_shareHeight 2 = .ok (.aload_n 1, 1) := by decide +kernel
theorem dX7_shareHeight_3 : decode cX7_shareHeight 3 = .ok (.iload_n 3, 1) := by decide +kernel
theorem dX7_shareHeight_4 : decode cX7_shareHeight 4 = .ok (.invokevirtual 379, 3) := by decide +kernel
theorem dX7_shareHeight_7 : decode cX7_shareHeight 7 = .ok (.aload_n 0, 1) := by decide +kernel
theorem dX7_shareHeight_8 : decode cX7_shareHeight 8 = .ok (.aload_n 2, 1) := by decide +kernel
theorem dX7_shareHeight_9 : decode cX7_shareHeight 9 = .ok (.iload_n 3, 1) := by decide +kernel
theorem dX7_shareHeight_10 : decode cX7_shareHeight 10 = .ok (.invokevirtual 379, 3) := by decide +kernel
theorem dX7_shareHeight_13 : decode cX7_shareHeight 13 = .ok (.invokestatic 383, 3) := by decide +kernel
theorem dX7_shareHeight_16 : decode cX7_shareHeight 16 = .ok (.invokestatic 383, 3) := by decide +kernel
theorem dX7_shareHeight_19 : decode cX7_shareHeight 19 = .ok (.istore 4, 2) := by decide +kernel
theorem dX7_shareHeight_21 : decode cX7_shareHeight 21 = .ok (.sipush 255, 3) := by decide +kernel
theorem dX7_shareHeight_24 : decode cX7_shareHeight 24 = .ok (.aload_n 0, 1) := by decide +kernel
theorem dX7_shareHeight_25 : decode cX7_shareHeight 25 = .ok (.aload_n 1, 1) := by decide +kernel
theorem dX7_shareHeight_26 : decode cX7_shareHeight 26 = .ok (.iload_n 3, 1) := by decide +kernel
theorem dX7_shareHeight_27 : decode cX7_shareHeight 27 = .ok (.invokevirtual 386, 3) := by decide +kernel
theorem dX7_shareHeight_30 : decode cX7_shareHeight 30 = .ok (.aload_n 0, 1) := by decide +kernel
theorem dX7_shareHeight_31 : decode cX7_shareHeight 31 = .ok (.aload_n 2, 1) := by decide +kernel
theorem dX7_shareHeight_32 : decode cX7_shareHeight 32 = .ok (.iload_n 3, 1) := by decide +kernel
theorem dX7_shareHeight_33 : decode cX7_shareHeight 33 = .ok (.invokevirtual 386, 3) := by decide +kernel
theorem dX7_shareHeight_36 : decode cX7_shareHeight 36 = .ok (.invokestatic 370, 3) := by decide +kernel
theorem dX7_shareHeight_39 : decode cX7_shareHeight 39 = .ok (.invokestatic 370, 3) := by decide +kernel
theorem dX7_shareHeight_42 : decode cX7_shareHeight 42 = .ok (.istore 5, 2) := by decide +kernel
theorem dX7_shareHeight_44 : decode cX7_shareHeight 44 = .ok (.iload 4, 2) := by decide +kernel
theorem dX7_shareHeight_46 : decode cX7_shareHeight 46 = .ok (.iload 5, 2) := by decide +kernel
theorem dX7_shareHeight_48 : decode cX7_shareHeight 48 = .ok (.if_icmp .gt 7, 3) := by decide +kernel
theorem dX7_shareHeight_51 : decode cX7_shareHeight 51 = .ok (.iconst 1, 1) := by decide +kernel
theorem dX7_shareHeight_52 : decode cX7_shareHeight 52 = .ok (.goto 4, 3) := by decide +kernel
theorem dX7_shareHeight_55 : decode cX7_shareHeight 55 = .ok (.iconst 0, 1) := by decide +kernel
theorem dX7_shareHeight_56 : decode cX7_shareHeight 56 = .ok (.ireturn, 1) := by decide +kernel
set_option maxHeartbeats 4000000 in
set_option maxRecDepth 100000 in
theorem t_X7_shareHeight {l : Launch} {g : zG} {d : Nat} {s : zS} (hR : zRok s) {p0 : Nat} (hp0 : 104 ≤ p0 ∧ p0 < 164) {p1 : Nat} (hp1 : 104 ≤ p1 ∧ p1 < 164) {p2 : Int32} {K : Bool → zS → Prop} (h : (zc l g d M_X7_leastHeight [.ref 64, .ref p0, .int p2] s (zKi (fun r2 s1 => s1.2.2.1 = s.2.2.1 ∧ (zc l g d M_X7_leastHeight [.ref 64, .ref p1, .int p2] s1 (zKi (fun r4 s3 => s3.2.2.1 = s1.2.2.1 ∧ (∀ v5 : Int32, v5 = zmax (0 : Int32) (zmax r2 r4) → (zc l g d M_X7_greatestHeight [.ref 64, .ref p0, .int p2] s3 (zKi (fun r7 s6 => s6.2.2.1 = s3.2.2.1 ∧ (zc l g d M_X7_greatestHeight [.ref 64, .ref p1, .int p2] s6 (zKi (fun r9 s8 => s8.2.2.1 = s6.2.2.1 ∧ (∀ v10 : Int32, v10 = zmin (255 : Int32) (zmin r7 r9) → (if v10 < v5 then K false s8 else K true s8)))))))))))))))) : zc l g (d + 1) M_X7_shareHeight [.ref 64, .ref p0, .ref p1, .int p2] s (zKz K) := by
  refine zCall_of k_X7_shareHeight (Nat.le_of_ble_eq_true rfl) (Nat.le_refl _) (fun _ => ?_)
  show zt l g (d + 1) M_X7_shareHeight 0 [.ref 64, .ref p0, .ref p1, .int p2, zJ, zJ] [] s (zKz K)
  refine z_iconst (v := (0 : Int32)) dX7_shareHeight_0 (by decide) rfl ?_
  refine z_aload_n (i := 0) dX7_shareHeight_1 rfl rfl rfl ?_
  refine z_aload_n (i := 1) dX7_shareHeight_2 rfl rfl rfl ?_
  refine z_iload_n (i := 3) dX7_shareHeight_3 rfl rfl rfl ?_
  refine z_callV k_X7_leastHeight m_X7_379 (zRec_of i_64) rfl h rfl (Nat.le_of_ble_eq_true rfl) dX7_shareHeight_4 zy200 rfl ?_
  rintro v s1 ⟨r2, rfl, hRs1, h⟩
  show zt l g (d + 1) M_X7_shareHeight 7 [.ref 64, .ref p0, .ref p1, .int p2, zJ, zJ] [.int r2, .int (0 : Int32)] s1 _
  refine z_aload_n (i := 0) dX7_shareHeight_7 rfl rfl rfl ?_
  refine z_aload_n (i := 2) dX7_shareHeight_8 rfl rfl rfl ?_
  refine z_iload_n (i := 3) dX7_shareHeight_9 rfl rfl rfl ?_
  refine z_callV k_X7_leastHeight m_X7_379 (zRec_of i_64) rfl h rfl (Nat.le_of_ble_eq_true rfl) dX7_shareHeight_10 zy200 rfl ?_
  rintro v s3 ⟨r4, rfl, hRs3, h⟩
  show zt l g (d + 1) M_X7_shareHeight 13 [.ref 64, .ref p0, .ref p1, .int p2, zJ, zJ] [.int r4, .int r2, .int (0 : Int32)] s3 _
  refine z_mmax m_X7_383 dX7_shareHeight_13 (Nat.le_of_ble_eq_true rfl) rfl ?_
  refine z_mmax m_X7_383 dX7_shareHeight_16 (Nat.le_of_ble_eq_true rfl) rfl ?_
  refine z_istore dX7_shareHeight_19 (by decide) (zokd rfl) rfl ?_
  obtain ⟨v5, ev5⟩ : ∃ x : Int32, x = zmax (0 : Int32) (zmax r2 r4) := ⟨_, rfl⟩
  rw [← ev5]
  have h := h v5 ev5
  show zt l g (d + 1) M_X7_shareHeight 21 [.ref 64, .ref p0, .ref p1, .int p2, .int v5, zJ] [] s3 _
  refine z_sipush (v := (255 : Int32)) dX7_shareHeight_21 (by decide) rfl ?_
  refine z_aload_n (i := 0) dX7_shareHeight_24 rfl rfl rfl ?_
  refine z_aload_n (i := 1) dX7_shareHeight_25 rfl rfl rfl ?_
  refine z_iload_n (i := 3) dX7_shareHeight_26 rfl rfl rfl ?_
  refine z_callV k_X7_greatestHeight m_X7_386 (zRec_of i_64) rfl h rfl (Nat.le_of_ble_eq_true rfl) dX7_shareHeight_27 zy200 rfl ?_
  rintro v s6 ⟨r7, rfl, hRs6, h⟩
  show zt l g (d + 1) M_X7_shareHeight 30 [.ref 64, .ref p0, .ref p1, .int p2, .int v5, zJ] [.int r7, .int (255 : Int32)] s6 _
  refine z_aload_n (i := 0) dX7_shareHeight_30 rfl rfl rfl ?_
  refine z_aload_n (i := 2) dX7_shareHeight_31 rfl rfl rfl ?_
  refine z_iload_n (i := 3) dX7_shareHeight_32 rfl rfl rfl ?_
  refine z_callV k_X7_greatestHeight m_X7_386 (zRec_of i_64) rfl h rfl (Nat.le_of_ble_eq_true rfl) dX7_shareHeight_33 zy200 rfl ?_
  rintro v s8 ⟨r9, rfl, hRs8, h⟩
  show zt l g (d + 1) M_X7_shareHeight 36 [.ref 64, .ref p0, .ref p1, .int p2, .int v5, zJ] [.int r9, .int r7, .int (255 : Int32)] s8 _
  refine z_mmin m_X7_370 dX7_shareHeight_36 (Nat.le_of_ble_eq_true rfl) rfl ?_
  refine z_mmin m_X7_370 dX7_shareHeight_39 (Nat.le_of_ble_eq_true rfl) rfl ?_
  refine z_istore dX7_shareHeight_42 (by decide) (zokd rfl) rfl ?_
  obtain ⟨v10, ev10⟩ : ∃ x : Int32, x = zmin (255 : Int32) (zmin r7 r9) := ⟨_, rfl⟩
  rw [← ev10]
  have h := h v10 ev10
  show zt l g (d + 1) M_X7_shareHeight 44 [.ref 64, .ref p0, .ref p1, .int p2, .int v5, .int v10] [] s8 _
  refine z_iload dX7_shareHeight_44 rfl rfl ?_
  refine z_iload dX7_shareHeight_46 rfl rfl ?_
  refine z_icmp_gt (pt := 55) dX7_shareHeight_48 (by decide) rfl (fun c => ?_) (fun c => ?_)
  · have h := zit h c
    refine z_iconst (v := (0 : Int32)) dX7_shareHeight_55 (by decide) rfl ?_
    exact z_ret (some (.int (zb false))) (Or.inr (Or.inl ⟨_, _, rfl, rfl, zb_nar _, dX7_shareHeight_56⟩)) zN200 ⟨_, rfl, h⟩
  · have h := zif h c
    refine z_iconst (v := (1 : Int32)) dX7_shareHeight_51 (by decide) rfl ?_
    refine z_goto (pn := 56) dX7_shareHeight_52 (by decide) ?_
    exact z_ret (some (.int (zb true))) (Or.inr (Or.inl ⟨_, _, rfl, rfl, zb_nar _, dX7_shareHeight_56⟩)) zN200 ⟨_, rfl, h⟩
theorem dX7_leastHeight_0 : decode cX7_leastHeight 0 = .ok (.aload_n 0, 1) := by decide +kernel
theorem dX7_leastHeight_1 : decode cX7_leastHeight 1 = .ok (.getfield 25, 3) := by decide +kernel
theorem dX7_leastHeight_4 : decode cX7_leastHeight 4 = .ok (.aload_n 1, 1) := by decide +kernel
theorem dX7_leastHeight_5 : decode cX7_leastHeight 5 = .ok (.getfield 203, 3) := by decide +kernel
theorem dX7_leastHeight_8 : decode cX7_leastHeight 8 = .ok (.iaload, 1) := by decide +kernel
theorem dX7_leastHeight_9 : decode cX7_leastHeight 9 = .ok (.istore_n 3, 1) := by decide +kernel
theorem dX7_leastHeight_10 : decode cX7_leastHeight 10 = .ok (.aload_n 1, 1) := by decide +kernel
theorem dX7_leastHeight_11 : decode cX7_leastHeight 11 = .ok (.getfield 215, 3) := by decide +kernel
theorem dX7_leastHeight_14 : decode cX7_leastHeight 14 = .ok (.aload_n 0, 1) := by decide +kernel
theorem dX7_leastHeight_15 : decode cX7_leastHeight 15 = .ok (.getfield 45, 3) := by decide +kernel
theorem dX7_leastHeight_18 : decode cX7_leastHeight 18 = .ok (.isub, 1) := by decide +kernel
theorem dX7_leastHeight_19 : decode cX7_leastHeight 19 = .ok (.istore 4, 2) := by decide +kernel
theorem dX7_leastHeight_21 : decode cX7_leastHeight 21 = .ok (.aload_n 0, 1) := by decide +kernel
theorem dX7_leastHeight_22 : decode cX7_leastHeight 22 = .ok (.iload_n 3, 1) := by decide +kernel
theorem dX7_leastHeight_23 : decode cX7_leastHeight 23 = .ok (.invokevirtual 389, 3) := by decide +kernel
theorem dX7_leastHeight_26 : decode cX7_leastHeight 26 = .ok (.iload 4, 2) := by decide +kernel
theorem dX7_leastHeight_28 : decode cX7_leastHeight 28 = .ok (.iload_n 3, 1) := by decide +kernel
theorem dX7_leastHeight_29 : decode cX7_leastHeight 29 = .ok (.iload_n 2, 1) := by decide +kernel
theorem dX7_leastHeight_30 : decode cX7_leastHeight 30 = .ok (.invokestatic 392, 3) := by decide +kernel
theorem dX7_leastHeight_33 : decode cX7_leastHeight 33 = .ok (.imul, 1) := by decide +kernel
theorem dX7_leastHeight_34 : decode cX7_leastHeight 34 = .ok (.bipush 100, 2) := by decide +kernel
theorem dX7_leastHeight_36 : decode cX7_leastHeight 36 = .ok (.invokestatic 395, 3) := by decide +kernel
theorem dX7_leastHeight_39 : decode cX7_leastHeight 39 = .ok (.iadd, 1) := by decide +kernel
theorem dX7_leastHeight_40 : decode cX7_leastHeight 40 = .ok (.ireturn, 1) := by decide +kernel
set_option maxHeartbeats 4000000 in
set_option maxRecDepth 100000 in
theorem t_X7_leastHeight {l : Launch} {g : zG} {d : Nat} {s : zS} (hR : zRok s) {p0 : Nat} (hp0 : 104 ≤ p0 ∧ p0 < 164) {p1 : Int32} {K : Int32 → zS → Prop} (h : (vp_in (s.1 p0 0) 20 ∧ (∀ v2 : Int32, v2 = s.1 69 ((s.1 p0 0).toNatClampNeg) → (zc l g d M_X7_eyeAt [.ref 64, .int v2] s (zKi (fun r4 s3 => s3.2.2.1 = s.2.2.1 ∧ (zc l g d M_X7_distance [.int v2, .int p1] s3 (zKi (fun r6 s5 => s5.2.2.1 = s3.2.2.1 ∧ (zc l g d M_X7_ceilDiv [.int (((s.1 p0 4) - (s.1 64 9)) * r6), .int (100 : Int32)] s5 (zKi (fun r8 s7 => s7.2.2.1 = s5.2.2.1 ∧ K (r4 + r8) s7)))))))))))) : zc l g (d + 1) M_X7_leastHeight [.ref 64, .ref p0, .int p1] s (zKi K) := by
  refine zCall_of k_X7_leastHeight (Nat.le_of_ble_eq_true rfl) (Nat.le_refl _) (fun _ => ?_)
  show zt l g (d + 1) M_X7_leastHeight 0 [.ref 64, .ref p0, .int p1, zJ, zJ] [] s (zKi K)
  refine z_aload_n (i := 0) dX7_leastHeight_0 rfl rfl rfl ?_
  refine z_getR (q := 69) f_X7_25 i_64 rfl (r_64_2 hR) (by decide) dX7_leastHeight_1 rfl ?_
  refine z_aload_n (i := 1) dX7_leastHeight_4 rfl rfl rfl ?_
  refine z_getI (x := s.1 p0 0) rfl f_X7_203 (i_Te hp0) rfl dX7_leastHeight_5 rfl ?_
  obtain ⟨a1, h⟩ := h
  have wa1 := vin a1
  refine z_iald (x := s.1 69 ((s.1 p0 0).toNatClampNeg)) rfl a_69 a1 dX7_leastHeight_8 rfl ?_
  refine z_istore_n (i := 3) dX7_leastHeight_9 rfl (by decide) (zokd rfl) rfl ?_
  obtain ⟨v2, ev2⟩ : ∃ x : Int32, x = s.1 69 ((s.1 p0 0).toNatClampNeg) := ⟨_, rfl⟩
  rw [← ev2]
  have h := h v2 ev2
  show zt l g (d + 1) M_X7_leastHeight 10 [.ref 64, .ref p0, .int p1, .int v2, zJ] [] s _
  refine z_aload_n (i := 1) dX7_leastHeight_10 rfl rfl rfl ?_
  refine z_getI (x := s.1 p0 4) rfl f_X7_215 (i_Te hp0) rfl dX7_leastHeight_11 rfl ?_
  refine z_aload_n (i := 0) dX7_leastHeight_14 rfl rfl rfl ?_
  refine z_getI (x := s.1 64 9) rfl f_X7_45 i_64 rfl dX7_leastHeight_15 rfl ?_
  refine z_isub dX7_leastHeight_18 rfl ?_
  refine z_istore dX7_leastHeight_19 (by decide) (zokd rfl) rfl ?_
  show zt l g (d + 1) M_X7_leastHeight 21 [.ref 64, .ref p0, .int p1, .int v2, .int ((s.1 p0 4) - (s.1 64 9))] [] s _
  refine z_aload_n (i := 0) dX7_leastHeight_21 rfl rfl rfl ?_
  refine z_iload_n (i := 3) dX7_leastHeight_22 rfl rfl rfl ?_
  refine z_callV k_X7_eyeAt m_X7_389 (zRec_of i_64) rfl h rfl (Nat.le_of_ble_eq_true rfl) dX7_leastHeight_23 zy200 rfl ?_
  rintro v s3 ⟨r4, rfl, hRs3, h⟩
  show zt l g (d + 1) M_X7_leastHeight 26 [.ref 64, .ref p0, .int p1, .int v2, .int ((s.1 p0 4) - (s.1 64 9))] [.int r4] s3 _
  refine z_iload dX7_leastHeight_26 rfl rfl ?_
  refine z_iload_n (i := 3) dX7_leastHeight_28 rfl rfl rfl ?_
  refine z_iload_n (i := 2) dX7_leastHeight_29 rfl rfl rfl ?_
  refine z_callS (as := [.int v2, .int p1]) k_X7_distance m_X7_392 rfl h rfl (Nat.le_of_ble_eq_true rfl) dX7_leastHeight_30 zy200 rfl ?_
  rintro v s5 ⟨r6, rfl, hRs5, h⟩
  show zt l g (d + 1) M_X7_leastHeight 33 [.ref 64, .ref p0, .int p1, .int v2, .int ((s.1 p0 4) - (s.1 64 9))] [.int r6, .int ((s.1 p0 4) - (s.1 64 9)), .int r4] s5 _
  refine z_imul dX7_leastHeight_33 rfl ?_
  refine z_bipush (v := (100 : Int32)) dX7_leastHeight_34 (by decide) rfl ?_
  refine z_callS (as := [.int (((s.1 p0 4) - (s.1 64 9)) * r6), .int (100 : Int32)]) k_X7_ceilDiv m_X7_395 rfl h rfl (Nat.le_of_ble_eq_true rfl) dX7_leastHeight_36 zy200 rfl ?_
  rintro v s7 ⟨r8, rfl, hRs7, h⟩
  show zt l g (d + 1) M_X7_leastHeight 39 [.ref 64, .ref p0, .int p1, .int v2, .int ((s.1 p0 4) - (s.1 64 9))] [.int r8, .int r4] s7 _
  refine z_iadd dX7_leastHeight_39 rfl ?_
  exact z_ret (some (.int (r4 + r8))) (Or.inr (Or.inl ⟨_, _, rfl, rfl, rfl, dX7_leastHeight_40⟩)) zN200 ⟨_, rfl, h⟩
theorem dX7_greatestHeight_0 : decode cX7_greatestHeight 0 = .ok (.aload_n 0, 1) := by decide +kernel
theorem dX7_greatestHeight_1 : decode cX7_greatestHeight 1 = .ok (.getfield 25, 3) := by decide +kernel
theorem dX7_greatestHeight_4 : decode cX7_greatestHeight 4 = .ok (.aload_n 1, 1) := by decide +kernel
theorem dX7_greatestHeight_5 : decode cX7_greatestHeight 5 = .ok (.getfield 203, 3) := by decide +kernel
theorem dX7_greatestHeight_8 : decode cX7_greatestHeight 8 = .ok (.iaload, 1) := by decide +kernel
theorem dX7_greatestHeight_9 : decode cX7_greatestHeight 9 = .ok (.istore_n 3, 1) := by decide +kernel
theorem dX7_greatestHeight_10 : decode cX7_greatestHeight 10 = .ok (.aload_n 1, 1) := by decide +kernel
theorem dX7_greatestHeight_11 : decode cX7_greatestHeight 11 = .ok (.getfield 215, 3) := by decide +kernel
theorem dX7_greatestHeight_14 : decode cX7_greatestHeight 14 = .ok (.aload_n 0, 1) := by decide +kernel
theorem dX7_greatestHeight_15 : decode cX7_greatestHeight 15 = .ok (.getfield 45, 3) := by decide +kernel
theorem dX7_greatestHeight_18 : decode cX7_greatestHeight 18 = .ok (.iadd, 1) := by decide +kernel
theorem dX7_greatestHeight_19 : decode cX7_greatestHeight 19 = .ok (.istore 4, 2) := by decide +kernel
theorem dX7_greatestHeight_21 : decode cX7_greatestHeight 21 = .ok (.iload 4, 2) := by decide +kernel
theorem dX7_greatestHeight_23 : decode cX7_greatestHeight 23 = .ok (.sipush 999, 3) := by decide +kernel
theorem dX7_greatestHeight_26 : decode cX7_greatestHeight 26 = .ok (.if_icmp .lt 7, 3) := by decide +kernel
theorem dX7_greatestHeight_29 : decode cX7_greatestHeight 29 = .ok (.sipush 255, 3) := by decide +kernel
theorem dX7_greatestHeight_32 : decode cX7_greatestHeight 32 = .ok (.ireturn, 1) := by decide +kernel
theorem dX7_greatestHeight_33 : decode cX7_greatestHeight 33 = .ok (.aload_n 0, 1) := by decide +kernel
theorem dX7_greatestHeight_34 : decode cX7_greatestHeight 34 = .ok (.iload_n 3, 1) := by decide +kernel
theorem dX7_greatestHeight_35 : decode cX7_greatestHeight 35 = .ok (.invokevirtual 389, 3) := by decide +kernel
theorem dX7_greatestHeight_38 : decode cX7_greatestHeight 38 = .ok (.iload 4, 2) := by decide +kernel
theorem dX7_greatestHeight_40 : decode cX7_greatestHeight 40 = .ok (.iconst 1, 1) := by decide +kernel
theorem dX7_greatestHeight_41 : decode cX7_greatestHeight 41 = .ok (.iadd, 1) := by decide +kernel
theorem dX7_greatestHeight_42 : decode cX7_greatestHeight 42 = .ok (.iload_n 3, 1) := by decide +kernel
theorem dX7_greatestHeight_43 : decode cX7_greatestHeight 43 = .ok (.iload_n 2, 1) := by decide +kernel
theorem dX7_greatestHeight_44 : decode cX7_greatestHeight 44 = .ok (.invokestatic 392, 3) := by decide +kernel
theorem dX7_greatestHeight_47 : decode cX7_greatestHeight 47 = .ok (.imul, 1) := by decide +kernel
theorem dX7_greatestHeight_48 : decode cX7_greatestHeight 48 = .ok (.bipush 100, 2) := by decide +kernel
theorem dX7_greatestHeight_50 : decode cX7_greatestHeight 50 = .ok (.invokestatic 395, 3) := by decide +kernel
theorem dX7_greatestHeight_53 : decode cX7_greatestHeight 53 = .ok (.iadd, 1) := by decide +kernel
theorem dX7_greatestHeight_54 : decode cX7_greatestHeight 54 = .ok (.iconst 1, 1) := by decide +kernel
theorem dX7_greatestHeight_55 : decode cX7_greatestHeight 55 = .ok (.isub, 1) := by decide +kernel
theorem dX7_greatestHeight_56 : decode cX7_greatestHeight 56 = .ok (.ireturn, 1) := by decide +kernel
set_option maxHeartbeats 4000000 in
set_option maxRecDepth 100000 in
theorem t_X7_greatestHeight {l : Launch} {g : zG} {d : Nat} {s : zS} (hR : zRok s) {p0 : Nat} (hp0 : 104 ≤ p0 ∧ p0 < 164) {p1 : Int32} {K : Int32 → zS → Prop} (h : (vp_in (s.1 p0 0) 20 ∧ (∀ v2 : Int32, v2 = s.1 69 ((s.1 p0 0).toNatClampNeg) → (if ((s.1 p0 4) + (s.1 64 9)) < (999 : Int32) then (zc l g d M_X7_eyeAt [.ref 64, .int v2] s (zKi (fun r4 s3 => s3.2.2.1 = s.2.2.1 ∧ (zc l g d M_X7_distance [.int v2, .int p1] s3 (zKi (fun r6 s5 => s5.2.2.1 = s3.2.2.1 ∧ (zc l g d M_X7_ceilDiv [.int ((((s.1 p0 4) + (s.1 64 9)) + (1 : Int32)) * r6), .int (100 : Int32)] s5 (zKi (fun r8 s7 => s7.2.2.1 = s5.2.2.1 ∧ K ((r4 + r8) - (1 : Int32)) s7))))))))) else K (255 : Int32) s)))) : zc l g (d + 1) M_X7_greatestHeight [.ref 64, .ref p0, .int p1] s (zKi K) := by
  refine zCall_of k_X7_greatestHeight (Nat.le_of_ble_eq_true rfl) (Nat.le_refl _) (fun _ => ?_)
  show zt l g (d + 1) M_X7_greatestHeight 0 [.ref 64, .ref p0, .int p1, zJ, zJ] [] s (zKi K)
  refine z_aload_n (i := 0) dX7_greatestHeight_0 rfl rfl rfl ?_
  refine z_getR (q := 69) f_X7_25 i_64 rfl (r_64_2 hR) (by decide) dX7_greatestHeight_1 rfl ?_
  refine z_aload_n (i := 1) dX7_greatestHeight_4 rfl rfl rfl ?_
  refine z_getI (x := s.1 p0 0) rfl f_X7_203 (i_Te hp0) rfl dX7_greatestHeight_5 rfl ?_
  obtain ⟨a1, h⟩ := h
  have wa1 := vin a1
  refine z_iald (x := s.1 69 ((s.1 p0 0).toNatClampNeg)) rfl a_69 a1 dX7_greatestHeight_8 rfl ?_
  refine z_istore_n (i := 3) dX7_greatestHeight_9 rfl (by decide) (zokd rfl) rfl ?_
  obtain ⟨v2, ev2⟩ : ∃ x : Int32, x = s.1 69 ((s.1 p0 0).toNatClampNeg) := ⟨_, rfl⟩
  rw [← ev2]
  have h := h v2 ev2
  show zt l g (d + 1) M_X7_greatestHeight 10 [.ref 64, .ref p0, .int p1, .int v2, zJ] [] s _
  refine z_aload_n (i := 1) dX7_greatestHeight_10 rfl rfl rfl ?_
  refine z_getI (x := s.1 p0 4) rfl f_X7_215 (i_Te hp0) rfl dX7_greatestHeight_11 rfl ?_
  refine z_aload_n (i := 0) dX7_greatestHeight_14 rfl rfl rfl ?_
  refine z_getI (x := s.1 64 9) rfl f_X7_45 i_64 rfl dX7_greatestHeight_15 rfl ?_
  refine z_iadd dX7_greatestHeight_18 rfl ?_
  refine z_istore dX7_greatestHeight_19 (by decide) (zokd rfl) rfl ?_
  show zt l g (d + 1) M_X7_greatestHeight 21 [.ref 64, .ref p0, .int p1, .int v2, .int ((s.1 p0 4) + (s.1 64 9))] [] s _
  refine z_iload dX7_greatestHeight_21 rfl rfl ?_
  refine z_sipush (v := (999 : Int32)) dX7_greatestHeight_23 (by decide) rfl ?_
  refine z_icmp_lt (pt := 33) dX7_greatestHeight_26 (by decide) rfl (fun c => ?_) (fun c => ?_)
  · have h := zit h c
    refine z_aload_n (i := 0) dX7_greatestHeight_33 rfl rfl rfl ?_
    refine z_iload_n (i := 3) dX7_greatestHeight_34 rfl rfl rfl ?_
    refine z_callV k_X7_eyeAt m_X7_389 (zRec_of i_64) rfl h rfl (Nat.le_of_ble_eq_true rfl) dX7_greatestHeight_35 zy200 rfl ?_
    rintro v s3 ⟨r4, rfl, hRs3, h⟩
    show zt l g (d + 1) M_X7_greatestHeight 38 [.ref 64, .ref p0, .int p1, .int v2, .int ((s.1 p0 4) + (s.1 64 9))] [.int r4] s3 _
    refine z_iload dX7_greatestHeight_38 rfl rfl ?_
    refine z_iconst (v := (1 : Int32)) dX7_greatestHeight_40 (by decide) rfl ?_
    refine z_iadd dX7_greatestHeight_41 rfl ?_
    refine z_iload_n (i := 3) dX7_greatestHeight_42 rfl rfl rfl ?_
    refine z_iload_n (i := 2) dX7_greatestHeight_43 rfl rfl rfl ?_
    refine z_callS (as := [.int v2, .int p1]) k_X7_distance m_X7_392 rfl h rfl (Nat.le_of_ble_eq_true rfl) dX7_greatestHeight_44 zy200 rfl ?_
    rintro v s5 ⟨r6, rfl, hRs5, h⟩
    show zt l g (d + 1) M_X7_greatestHeight 47 [.ref 64, .ref p0, .int p1, .int v2, .int ((s.1 p0 4) + (s.1 64 9))] [.int r6, .int (((s.1 p0 4) + (s.1 64 9)) + (1 : Int32)), .int r4] s5 _
    refine z_imul dX7_greatestHeight_47 rfl ?_
    refine z_bipush (v := (100 : Int32)) dX7_greatestHeight_48 (by decide) rfl ?_
    refine z_callS (as := [.int ((((s.1 p0 4) + (s.1 64 9)) + (1 : Int32)) * r6), .int (100 : Int32)]) k_X7_ceilDiv m_X7_395 rfl h rfl (Nat.le_of_ble_eq_true rfl) dX7_greatestHeight_50 zy200 rfl ?_
    rintro v s7 ⟨r8, rfl, hRs7, h⟩
    show zt l g (d + 1) M_X7_greatestHeight 53 [.ref 64, .ref p0, .int p1, .int v2, .int ((s.1 p0 4) + (s.1 64 9))] [.int r8, .int r4] s7 _
    refine z_iadd dX7_greatestHeight_53 rfl ?_
    refine z_iconst (v := (1 : Int32)) dX7_greatestHeight_54 (by decide) rfl ?_
    refine z_isub dX7_greatestHeight_55 rfl ?_
    exact z_ret (some (.int ((r4 + r8) - (1 : Int32)))) (Or.inr (Or.inl ⟨_, _, rfl, rfl, rfl, dX7_greatestHeight_56⟩)) zN200 ⟨_, rfl, h⟩
  · have h := zif h c
    refine z_sipush (v := (255 : Int32)) dX7_greatestHeight_29 (by decide) rfl ?_
    exact z_ret (some (.int (255 : Int32))) (Or.inr (Or.inl ⟨_, _, rfl, rfl, rfl, dX7_greatestHeight_32⟩)) zN200 ⟨_, rfl, h⟩
theorem dX7_leastShown_0 : decode cX7_leastShown 0 = .ok (.iload_n 1, 1) := by decide +kernel
theorem dX7_leastShown_1 : decode cX7_leastShown 1 = .ok (.bipush 64, 2) := by decide +kernel
theorem dX7_leastShown_3 : decode cX7_leastShown 3 = .ok (.idiv, 1) := by decide +kernel
theorem dX7_leastShown_4 : decode cX7_leastShown 4 = .ok (.istore_n 3, 1) := by decide +kernel
theorem dX7_leastShown_5 : decode cX7_leastShown 5 = .ok (.iload_n 1, 1) := by decide +kernel
theorem dX7_leastShown_6 : decode cX7_leastShown 6 = .ok (.bipush 64, 2) := by decide +kernel
theorem dX7_leastShown_8 : decode cX7_leastShown 8 = .ok (.irem, 1) := by decide +kernel
theorem dX7_leastShown_9 : decode cX7_leastShown 9 = .ok (.istore 4, 2) := by decide +kernel
theorem dX7_leastShown_11 : decode cX7_leastShown 11 = .ok (.iload_n 2, 1) := by decide +kernel
theorem dX7_leastShown_12 : decode cX7_leastShown 12 = .ok (.bipush 64, 2) := by decide +kernel
theorem dX7_leastShown_14 : decode cX7_leastShown 14 = .ok (.idiv, 1) := by decide +kernel
theorem dX7_leastShown_15 : decode cX7_leastShown 15 = .ok (.iload_n 3, 1) := by decide +kernel
theorem dX7_leastShown_16 : decode cX7_leastShown 16 = .ok (.isub, 1) := by decide +kernel
theorem dX7_leastShown_17 : decode cX7_leastShown 17 = .ok (.istore 5, 2) := by decide +kernel
theorem dX7_leastShown_19 : decode cX7_leastShown 19 = .ok (.iload_n 2, 1) := by decide +kernel
theorem dX7_leastShown_20 : decode cX7_leastShown 20 = .ok (.bipush 64, 2) := by decide +kernel
theorem dX7_leastShown_22 : decode cX7_leastShown 22 = .ok (.irem, 1) := by decide +kernel
theorem dX7_leastShown_23 : decode cX7_leastShown 23 = .ok (.iload 4, 2) := by decide +kernel
theorem dX7_leastShown_25 : decode cX7_leastShown 25 = .ok (.isub, 1) := by decide +kernel
theorem dX7_leastShown_26 : decode cX7_leastShown 26 = .ok (.istore 6, 2) := by decide +kernel
theorem dX7_leastShown_28 : decode cX7_leastShown 28 = .ok (.aload_n 0, 1) := by decide +kernel
theorem dX7_leastShown_29 : decode cX7_leastShown 29 = .ok (.iload_n 1, 1) := by decide +kernel
theorem dX7_leastShown_30 : decode cX7_leastShown 30 = .ok (.invokevirtual 389, 3) := by decide +kernel
theorem dX7_leastShown_33 : decode cX7_leastShown 33 = .ok (.istore 7, 2) := by decide +kernel
theorem dX7_leastShown_35 : decode cX7_leastShown 35 = .ok (.aload_n 0, 1) := by decide +kernel
theorem dX7_leastShown_36 : decode cX7_leastShown 36 = .ok (.getfield 12, 3) := by decide +kernel
theorem dX7_leastShown_39 : decode cX7_leastShown 39 = .ok (.iload_n 2, 1) := by decide +kernel
theorem dX7_leastShown_40 : decode cX7_leastShown 40 = .ok (.bipush 64, 2) := by decide +kernel
theorem dX7_leastShown_42 : decode cX7_leastShown 42 = .ok (.idiv, 1) := by decide +kernel
theorem dX7_leastShown_43 : decode cX7_leastShown 43 = .ok (.iload_n 2, 1) := by decide +kernel
theorem dX7_leastShown_44 : decode cX7_leastShown 44 = .ok (.bipush 64, 2) := by decide +kernel
theorem dX7_leastShown_46 : decode cX7_leastShown 46 = .ok (.irem, 1) := by decide +kernel
theorem dX7_leastShown_47 : decode cX7_leastShown 47 = .ok (.invokevirtual 153, 3) := by decide +kernel
theorem dX7_leastShown_50 : decode cX7_leastShown 50 = .ok (.iconst 1, 1) := by decide +kernel
theorem dX7_leastShown_51 : decode cX7_leastShown 51 = .ok (.iadd, 1) := by decide +kernel
theorem dX7_leastShown_52 : decode cX7_leastShown 52 = .ok (.istore 8, 2) := by decide +kernel
theorem dX7_leastShown_54 : decode cX7_leastShown 54 = .ok (.iconst 1, 1) := by decide +kernel
theorem dX7_leastShown_55 : decode cX7_leastShown 55 = .ok (.istore 9, 2) := by decide +kernel
theorem dX7_leastShown_57 : decode cX7_leastShown 57 = .ok (.iload 9, 2) := by decide +kernel
theorem dX7_leastShown_59 : decode cX7_leastShown 59 = .ok (.bipush 16, 2) := by decide +kernel
theorem dX7_leastShown_61 : decode cX7_leastShown 61 = .ok (.if_icmp .ge 60, 3) := by decide +kernel
theorem dX7_leastShown_64 : decode cX7_leastShown 64 = .ok (.aload_n 0, 1) := by decide +kernel
theorem dX7_leastShown_65 : decode cX7_leastShown 65 = .ok (.getfield 12, 3) := by decide +kernel
theorem dX7_leastShown_68 : decode cX7_leastShown 68 = .ok (.iload_n 3, 1) := by decide +kernel
theorem dX7_leastShown_69 : decode cX7_leastShown 69 = .ok (.iload 5, 2) := by decide +kernel
theorem dX7_leastShown_71 : decode cX7_leastShown 71 = .ok (.iload 9, 2) := by decide +kernel
theorem dX7_leastShown_73 : decode cX7_leastShown 73 = .ok (.imul, 1) := by decide +kernel
theorem dX7_leastShown_74 : decode cX7_leastShown 74 = .ok (.iconst 4, 1) := by decide +kernel
theorem dX7_leastShown_75 : decode cX7_leastShown 75 = .ok (.ishr, 1) := by decide +kernel
theorem dX7_leastShown_76 : decode cX7_leastShown 76 = .ok (.iadd, 1) := by decide +kernel
theorem dX7_leastShown_77 : decode cX7_leastShown 77 = .ok (.iload 4, 2) := by decide +kernel
theorem dX7_leastShown_79 : decode cX7_leastShown 79 = .ok (.iload 6, 2) := by decide +kernel
theorem dX7_leastShown_81 : decode cX7_leastShown 81 = .ok (.iload 9, 2) := by decide +kernel
theorem dX7_leastShown_83 : decode cX7_leastShown 83 = .ok (.imul, 1) := by decide +kernel
theorem dX7_leastShown_84 : decode cX7_leastShown 84 = .ok (.iconst 4, 1) := by decide +kernel
theorem dX7_leastShown_85 : decode cX7_leastShown 85 = .ok (.ishr, 1) := by decide +kernel
theorem dX7_leastShown_86 : decode cX7_leastShown 86 = .ok (.iadd, 1) := by decide +kernel
theorem dX7_leastShown_87 : decode cX7_leastShown 87 = .ok (.invokevirtual 153, 3) := by decide +kernel
theorem dX7_leastShown_90 : decode cX7_leastShown 90 = .ok (.istore 10, 2) := by decide +kernel
theorem dX7_leastShown_92 : decode cX7_leastShown 92 = .ok (.iload 8, 2) := by decide +kernel
theorem dX7_leastShown_94 : decode cX7_leastShown 94 = .ok (.iload 7, 2) := by decide +kernel
theorem dX7_leastShown_96 : decode cX7_leastShown 96 = .ok (.iload 10, 2) := by decide +kernel
theorem dX7_leastShown_98 : decode cX7_leastShown 98 = .ok (.iload 7, 2) := by decide +kernel
theorem dX7_leastShown_100 : decode cX7_leastShown 100 = .ok (.isub, 1) := by decide +kernel
theorem dX7_leastShown_101 : decode cX7_leastShown 101 = .ok (.bipush 16, 2) := by decide +kernel
theorem dX7_leastShown_103 : decode cX7_leastShown 103 = .ok (.imul, 1) := by decide +kernel
theorem dX7_leastShown_104 : decode cX7_leastShown 104 = .ok (.iload 9, 2) := by decide +kernel
theorem dX7_leastShown_106 : decode cX7_leastShown 106 = .ok (.invokestatic 395, 3) := by decide +kernel
theorem dX7_leastShown_109 : decode cX7_leastShown 109 = .ok (.iadd, 1) := by decide +kernel
theorem dX7_leastShown_110 : decode cX7_leastShown 110 = .ok (.invokestatic 383, 3) := by decide +kernel
theorem dX7_leastShown_113 : decode cX7_leastShown 113 = .ok (.istore 8, 2) := by decide +kernel
theorem dX7_leastShown_115 : decode cX7_leastShown 115 = .ok (.iinc 9 1, 3) := by decide +kernel
theorem dX7_leastShown_118 : decode cX7_leastShown 118 = .ok (.goto (-61), 3) := by decide +kernel
theorem dX7_leastShown_121 : decode cX7_leastShown 121 = .ok (.iload 8, 2) := by decide +kernel
theorem dX7_leastShown_123 : decode cX7_leastShown 123 = .ok (.ireturn, 1) := by decide +kernel
set_option maxHeartbeats 4000000 in
set_option maxRecDepth 100000 in
theorem t_X7_leastShown {l : Launch} {g : zG} {d : Nat} {s : zS} (hR : zRok s) {p0 : Int32} {p1 : Int32} {K : Int32 → zS → Prop} (h : (∀ v1 : Int32, v1 = (p1 / (64 : Int32)) - (p0 / (64 : Int32)) → (∀ v2 : Int32, v2 = (p1 % (64 : Int32)) - (p0 % (64 : Int32)) → (zc l g d M_X7_eyeAt [.ref 64, .int p0] s (zKi (fun r4 s3 => s3.2.2.1 = s.2.2.1 ∧ (zc l g d M_X1_groundAt [.ref 65, .int (p1 / (64 : Int32)), .int (p1 % (64 : Int32))] s3 (zKi (fun r6 s5 => s5.2.2.1 = s3.2.2.1 ∧ zt l g (d + 1) M_X7_leastShown 57 [.ref 64, zJ, zJ, .int (p0 / (64 : Int32)), .int (p0 % (64 : Int32)), .int v1, .int v2, .int r4, .int (r6 + (1 : Int32)), .int (1 : Int32), zJ] [] s5 (zKi K)))))))))) : zc l g (d + 1) M_X7_leastShown [.ref 64, .int p0, .int p1] s (zKi K) := by
  refine zCall_of k_X7_leastShown (Nat.le_of_ble_eq_true rfl) (Nat.le_refl _) (fun _ => ?_)
  show zt l g (d + 1) M_X7_leastShown 0 [.ref 64, .int p0, .int p1, zJ, zJ, zJ, zJ, zJ, zJ, zJ, zJ] [] s (zKi K)
  refine z_iload_n (i := 1) dX7_leastShown_0 rfl rfl rfl ?_
  refine z_bipush (v := (64 : Int32)) dX7_leastShown_1 (by decide) rfl ?_
  refine z_idiv dX7_leastShown_3 (by decide) rfl ?_
  refine z_istore_n (i := 3) dX7_leastShown_4 rfl (by decide) (zokd rfl) rfl ?_
  show zt l g (d + 1) M_X7_leastShown 5 [.ref 64, .int p0, .int p1, .int (p0 / (64 : Int32)), zJ, zJ, zJ, zJ, zJ, zJ, zJ] [] s _
  refine z_iload_n (i := 1) dX7_leastShown_5 rfl rfl rfl ?_
  refine z_bipush (v := (64 : Int32)) dX7_leastShown_6 (by decide) rfl ?_
  refine z_irem dX7_leastShown_8 (by decide) rfl ?_
  refine z_istore dX7_leastShown_9 (by decide) (zokd rfl) rfl ?_
  show zt l g (d + 1) M_X7_leastShown 11 [.ref 64, .int p0, .int p1, .int (p0 / (64 : Int32)), .int (p0 % (64 : Int32)), zJ, zJ, zJ, zJ, zJ, zJ] [] s _
  refine z_iload_n (i := 2) dX7_leastShown_11 rfl rfl rfl ?_
  refine z_bipush (v := (64 : Int32)) dX7_leastShown_12 (by decide) rfl ?_
  refine z_idiv dX7_leastShown_14 (by decide) rfl ?_
  refine z_iload_n (i := 3) dX7_leastShown_15 rfl rfl rfl ?_
  refine z_isub dX7_leastShown_16 rfl ?_
  refine z_istore dX7_leastShown_17 (by decide) (zokd rfl) rfl ?_
  obtain ⟨v1, ev1⟩ : ∃ x : Int32, x = (p1 / (64 : Int32)) - (p0 / (64 : Int32)) := ⟨_, rfl⟩
  rw [← ev1]
  have h := h v1 ev1
  show zt l g (d + 1) M_X7_leastShown 19 [.ref 64, .int p0, .int p1, .int (p0 / (64 : Int32)), .int (p0 % (64 : Int32)), .int v1, zJ, zJ, zJ, zJ, zJ] [] s _
  refine z_iload_n (i := 2) dX7_leastShown_19 rfl rfl rfl ?_
  refine z_bipush (v := (64 : Int32)) dX7_leastShown_20 (by decide) rfl ?_
  refine z_irem dX7_leastShown_22 (by decide) rfl ?_
  refine z_iload dX7_leastShown_23 rfl rfl ?_
  refine z_isub dX7_leastShown_25 rfl ?_
  refine z_istore dX7_leastShown_26 (by decide) (zokd rfl) rfl ?_
  obtain ⟨v2, ev2⟩ : ∃ x : Int32, x = (p1 % (64 : Int32)) - (p0 % (64 : Int32)) := ⟨_, rfl⟩
  rw [← ev2]
  have h := h v2 ev2
  show zt l g (d + 1) M_X7_leastShown 28 [.ref 64, .int p0, .int p1, .int (p0 / (64 : Int32)), .int (p0 % (64 : Int32)), .int v1, .int v2, zJ, zJ, zJ, zJ] [] s _
  refine z_aload_n (i := 0) dX7_leastShown_28 rfl rfl rfl ?_
  refine z_iload_n (i := 1) dX7_leastShown_29 rfl rfl rfl ?_
  refine z_callV k_X7_eyeAt m_X7_389 (zRec_of i_64) rfl h rfl (Nat.le_of_ble_eq_true rfl) dX7_leastShown_30 zy200 rfl ?_
  rintro v s3 ⟨r4, rfl, hRs3, h⟩
  show zt l g (d + 1) M_X7_leastShown 33 [.ref 64, .int p0, .int p1, .int (p0 / (64 : Int32)), .int (p0 % (64 : Int32)), .int v1, .int v2, zJ, zJ, zJ, zJ] [.int r4] s3 _
  refine z_istore dX7_leastShown_33 (by decide) (zokd rfl) rfl ?_
  show zt l g (d + 1) M_X7_leastShown 35 [.ref 64, .int p0, .int p1, .int (p0 / (64 : Int32)), .int (p0 % (64 : Int32)), .int v1, .int v2, .int r4, zJ, zJ, zJ] [] s3 _
  refine z_aload_n (i := 0) dX7_leastShown_35 rfl rfl rfl ?_
  refine z_getR (q := 65) f_X7_12 i_64 rfl (r_64_0 (zRok_of hRs3 hR)) (by decide) dX7_leastShown_36 rfl ?_
  refine z_iload_n (i := 2) dX7_leastShown_39 rfl rfl rfl ?_
  refine z_bipush (v := (64 : Int32)) dX7_leastShown_40 (by decide) rfl ?_
  refine z_idiv dX7_leastShown_42 (by decide) rfl ?_
  refine z_iload_n (i := 2) dX7_leastShown_43 rfl rfl rfl ?_
  refine z_bipush (v := (64 : Int32)) dX7_leastShown_44 (by decide) rfl ?_
  refine z_irem dX7_leastShown_46 (by decide) rfl ?_
  refine z_callV k_X1_groundAt m_X7_153 (zRec_of i_65) rfl h rfl (Nat.le_of_ble_eq_true rfl) dX7_leastShown_47 zy200 rfl ?_
  rintro v s5 ⟨r6, rfl, hRs5, h⟩
  show zt l g (d + 1) M_X7_leastShown 50 [.ref 64, .int p0, .int p1, .int (p0 / (64 : Int32)), .int (p0 % (64 : Int32)), .int v1, .int v2, .int r4, zJ, zJ, zJ] [.int r6] s5 _
  refine z_iconst (v := (1 : Int32)) dX7_leastShown_50 (by decide) rfl ?_
  refine z_iadd dX7_leastShown_51 rfl ?_
  refine z_istore dX7_leastShown_52 (by decide) (zokd rfl) rfl ?_
  show zt l g (d + 1) M_X7_leastShown 54 [.ref 64, .int p0, .int p1, .int (p0 / (64 : Int32)), .int (p0 % (64 : Int32)), .int v1, .int v2, .int r4, .int (r6 + (1 : Int32)), zJ, zJ] [] s5 _
  refine z_iconst (v := (1 : Int32)) dX7_leastShown_54 (by decide) rfl ?_
  refine z_istore dX7_leastShown_55 (by decide) (zokd rfl) rfl ?_
  show zt l g (d + 1) M_X7_leastShown 57 [.ref 64, .int p0, .int p1, .int (p0 / (64 : Int32)), .int (p0 % (64 : Int32)), .int v1, .int v2, .int r4, .int (r6 + (1 : Int32)), .int (1 : Int32), zJ] [] s5 _
  refine z_wk (ls' := [.ref 64, zJ, zJ, .int (p0 / (64 : Int32)), .int (p0 % (64 : Int32)), .int v1, .int v2, .int r4, .int (r6 + (1 : Int32)), .int (1 : Int32), zJ]) ⟨Or.inr rfl, Or.inl rfl, Or.inl rfl, Or.inr rfl, Or.inr rfl, Or.inr rfl, Or.inr rfl, Or.inr rfl, Or.inr rfl, Or.inr rfl, Or.inr rfl, trivial⟩ ?_
  exact h
set_option maxHeartbeats 4000000 in
set_option maxRecDepth 100000 in
theorem t_X7_leastShown_57 {l : Launch} {g : zG} {d : Nat} {s : zS} (hR : zRok s) {x3 : Int32} {x4 : Int32} {x5 : Int32} {x6 : Int32} {x7 : Int32} {x8 : Int32} {x9 : Int32} {K : Int32 → zS → Prop} (h : (if (16 : Int32) ≤ x9 then K x8 s else (zc l g d M_X1_groundAt [.ref 65, .int (x3 + ((x5 * x9) >>> ((4 : Int32) &&& 31))), .int (x4 + ((x6 * x9) >>> ((4 : Int32) &&& 31)))] s (zKi (fun r2 s1 => s1.2.2.1 = s.2.2.1 ∧ (zc l g d M_X7_ceilDiv [.int ((r2 - x7) * (16 : Int32)), .int x9] s1 (zKi (fun r4 s3 => s3.2.2.1 = s1.2.2.1 ∧ zt l g (d + 1) M_X7_leastShown 57 [.ref 64, zJ, zJ, .int x3, .int x4, .int x5, .int x6, .int x7, .int (zmax x8 (x7 + r4)), .int (x9 + (1 : Int32)), zJ] [] s3 (zKi K))))))))) : zt l g (d + 1) M_X7_leastShown 57 [.ref 64, zJ, zJ, .int x3, .int x4, .int x5, .int x6, .int x7, .int x8, .int x9, zJ] [] s (zKi K) := by
  refine z_iload dX7_leastShown_57 rfl rfl ?_
  refine z_bipush (v := (16 : Int32)) dX7_leastShown_59 (by decide) rfl ?_
  refine z_icmp_ge (pt := 121) dX7_leastShown_61 (by decide) rfl (fun c => ?_) (fun c => ?_)
  · have h := zit h c
    refine z_iload dX7_leastShown_121 rfl rfl ?_
    exact z_ret (some (.int x8)) (Or.inr (Or.inl ⟨_, _, rfl, rfl, rfl, dX7_leastShown_123⟩)) zN200 ⟨_, rfl, h⟩
  · have h := zif h c
    refine z_aload_n (i := 0) dX7_leastShown_64 rfl rfl rfl ?_
    refine z_getR (q := 65) f_X7_12 i_64 rfl (r_64_0 hR) (by decide) dX7_leastShown_65 rfl ?_
    refine z_iload_n (i := 3) dX7_leastShown_68 rfl rfl rfl ?_
    refine z_iload dX7_leastShown_69 rfl rfl ?_
    refine z_iload dX7_leastShown_71 rfl rfl ?_
    refine z_imul dX7_leastShown_73 rfl ?_
    refine z_iconst (v := (4 : Int32)) dX7_leastShown_74 (by decide) rfl ?_
    refine z_ishr dX7_leastShown_75 rfl ?_
    refine z_iadd dX7_leastShown_76 rfl ?_
    refine z_iload dX7_leastShown_77 rfl rfl ?_
    refine z_iload dX7_leastShown_79 rfl rfl ?_
    refine z_iload dX7_leastShown_81 rfl rfl ?_
    refine z_imul dX7_leastShown_83 rfl ?_
    refine z_iconst (v := (4 : Int32)) dX7_leastShown_84 (by decide) rfl ?_
    refine z_ishr dX7_leastShown_85 rfl ?_
    refine z_iadd dX7_leastShown_86 rfl ?_
    refine z_callV k_X1_groundAt m_X7_153 (zRec_of i_65) rfl h rfl (Nat.le_of_ble_eq_true rfl) dX7_leastShown_87 zy200 rfl ?_
    rintro v s1 ⟨r2, rfl, hRs1, h⟩
    show zt l g (d + 1) M_X7_leastShown 90 [.ref 64, zJ, zJ, .int x3, .int x4, .int x5, .int x6, .int x7, .int x8, .int x9, zJ] [.int r2] s1 _
    refine z_istore dX7_leastShown_90 (by decide) (zokd rfl) rfl ?_
    show zt l g (d + 1) M_X7_leastShown 92 [.ref 64, zJ, zJ, .int x3, .int x4, .int x5, .int x6, .int x7, .int x8, .int x9, .int r2] [] s1 _
    refine z_iload dX7_leastShown_92 rfl rfl ?_
    refine z_iload dX7_leastShown_94 rfl rfl ?_
    refine z_iload dX7_leastShown_96 rfl rfl ?_
    refine z_iload dX7_leastShown_98 rfl rfl ?_
    refine z_isub dX7_leastShown_100 rfl ?_
    refine z_bipush (v := (16 : Int32)) dX7_leastShown_101 (by decide) rfl ?_
    refine z_imul dX7_leastShown_103 rfl ?_
    refine z_iload dX7_leastShown_104 rfl rfl ?_
    refine z_callS (as := [.int ((r2 - x7) * (16 : Int32)), .int x9]) k_X7_ceilDiv m_X7_395 rfl h rfl (Nat.le_of_ble_eq_true rfl) dX7_leastShown_106 zy200 rfl ?_
    rintro v s3 ⟨r4, rfl, hRs3, h⟩
    show zt l g (d + 1) M_X7_leastShown 109 [.ref 64, zJ, zJ, .int x3, .int x4, .int x5, .int x6, .int x7, .int x8, .int x9, .int r2] [.int r4, .int x7, .int x8] s3 _
    refine z_iadd dX7_leastShown_109 rfl ?_
    refine z_mmax m_X7_383 dX7_leastShown_110 (Nat.le_of_ble_eq_true rfl) rfl ?_
    refine z_istore dX7_leastShown_113 (by decide) (zokd rfl) rfl ?_
    show zt l g (d + 1) M_X7_leastShown 115 [.ref 64, zJ, zJ, .int x3, .int x4, .int x5, .int x6, .int x7, .int (zmax x8 (x7 + r4)), .int x9, .int r2] [] s3 _
    refine z_iinc (v := x9 + (1 : Int32)) dX7_leastShown_115 rfl rfl (by decide) (zokd rfl) rfl ?_
    show zt l g (d + 1) M_X7_leastShown 118 [.ref 64, zJ, zJ, .int x3, .int x4, .int x5, .int x6, .int x7, .int (zmax x8 (x7 + r4)), .int (x9 + (1 : Int32)), .int r2] [] s3 _
    refine z_goto (pn := 57) dX7_leastShown_118 (by decide) ?_
    refine z_wk (ls' := [.ref 64, zJ, zJ, .int x3, .int x4, .int x5, .int x6, .int x7, .int (zmax x8 (x7 + r4)), .int (x9 + (1 : Int32)), zJ]) ⟨Or.inr rfl, Or.inr rfl, Or.inr rfl, Or.inr rfl, Or.inr rfl, Or.inr rfl, Or.inr rfl, Or.inr rfl, Or.inr rfl, Or.inr rfl, Or.inl rfl, trivial⟩ ?_
    exact h
theorem dX7_eyeAt_0 : decode cX7_eyeAt 0 = .ok (.aload_n 0, 1) := by decide +kernel
theorem dX7_eyeAt_1 : decode cX7_eyeAt 1 = .ok (.getfield 12, 3) := by decide +kernel
theorem dX7_eyeAt_4 : decode cX7_eyeAt 4 = .ok (.iload_n 1, 1) := by decide +kernel
theorem dX7_eyeAt_5 : decode cX7_eyeAt 5 = .ok (.bipush 64, 2) := by decide +kernel
theorem dX7_eyeAt_7 : decode cX7_eyeAt 7 = .ok (.idiv, 1) := by decide +kernel
theorem dX7_eyeAt_8 : decode cX7_eyeAt 8 = .ok (.iload_n 1, 1) := by decide +kernel
theorem dX7_eyeAt_9 : decode cX7_eyeAt 9 = .ok (.bipush 64, 2) := by decide +kernel
theorem dX7_eyeAt_11 : decode cX7_eyeAt 11 = .ok (.irem, 1) := by decide +kernel
theorem dX7_eyeAt_12 : decode cX7_eyeAt 12 = .ok (.invokevirtual 153, 3) := by decide +kernel
theorem dX7_eyeAt_15 : decode cX7_eyeAt 15 = .ok (.iconst 1, 1) := by decide +kernel
theorem dX7_eyeAt_16 : decode cX7_eyeAt 16 = .ok (.iadd, 1) := by decide +kernel
theorem dX7_eyeAt_17 : decode cX7_eyeAt 17 = .ok (.ireturn, 1) := by decide +kernel
set_option maxHeartbeats 4000000 in
set_option maxRecDepth 100000 in
theorem t_X7_eyeAt {l : Launch} {g : zG} {d : Nat} {s : zS} (hR : zRok s) {p0 : Int32} {K : Int32 → zS → Prop} (h : (zc l g d M_X1_groundAt [.ref 65, .int (p0 / (64 : Int32)), .int (p0 % (64 : Int32))] s (zKi (fun r2 s1 => s1.2.2.1 = s.2.2.1 ∧ K (r2 + (1 : Int32)) s1)))) : zc l g (d + 1) M_X7_eyeAt [.ref 64, .int p0] s (zKi K) := by
  refine zCall_of k_X7_eyeAt (Nat.le_of_ble_eq_true rfl) (Nat.le_refl _) (fun _ => ?_)
  show zt l g (d + 1) M_X7_eyeAt 0 [.ref 64, .int p0] [] s (zKi K)
  refine z_aload_n (i := 0) dX7_eyeAt_0 rfl rfl rfl ?_
  refine z_getR (q := 65) f_X7_12 i_64 rfl (r_64_0 hR) (by decide) dX7_eyeAt_1 rfl ?_
  refine z_iload_n (i := 1) dX7_eyeAt_4 rfl rfl rfl ?_
  refine z_bipush (v := (64 : Int32)) dX7_eyeAt_5 (by decide) rfl ?_
  refine z_idiv dX7_eyeAt_7 (by decide) rfl ?_
  refine z_iload_n (i := 1) dX7_eyeAt_8 rfl rfl rfl ?_
  refine z_bipush (v := (64 : Int32)) dX7_eyeAt_9 (by decide) rfl ?_
  refine z_irem dX7_eyeAt_11 (by decide) rfl ?_
  refine z_callV k_X1_groundAt m_X7_153 (zRec_of i_65) rfl h rfl (Nat.le_of_ble_eq_true rfl) dX7_eyeAt_12 zy200 rfl ?_
  rintro v s1 ⟨r2, rfl, hRs1, h⟩
  show zt l g (d + 1) M_X7_eyeAt 15 [.ref 64, .int p0] [.int r2] s1 _
  refine z_iconst (v := (1 : Int32)) dX7_eyeAt_15 (by decide) rfl ?_
  refine z_iadd dX7_eyeAt_16 rfl ?_
  exact z_ret (some (.int (r2 + (1 : Int32)))) (Or.inr (Or.inl ⟨_, _, rfl, rfl, rfl, dX7_eyeAt_17⟩)) zN200 ⟨_, rfl, h⟩
theorem dX7_distance_0 : decode cX7_distance 0 = .ok (.iload_n 0, 1) := by decide +kernel
theorem dX7_distance_1 : decode cX7_distance 1 = .ok (.bipush 64, 2) := by decide +kernel
theorem dX7_distance_3 : decode cX7_distance 3 = .ok (.idiv, 1) := by decide +kernel
theorem dX7_distance_4 : decode cX7_distance 4 = .ok (.iload_n 1, 1) := by decide +kernel
theorem dX7_distance_5 : decode cX7_distance 5 = .ok (.bipush 64, 2) := by decide +kernel
theorem dX7_distance_7 : decode cX7_distance 7 = .ok (.idiv, 1) := by decide +kernel
theorem dX7_distance_8 : decode cX7_distance 8 = .ok (.isub, 1) := by decide +kernel
theorem dX7_distance_9 : decode cX7_distance 9 = .ok (.invokestatic 281, 3) := by decide +kernel
theorem dX7_distance_12 : decode cX7_distance 12 = .ok (.iload_n 0, 1) := by decide +kernel
theorem dX7_distance_13 : decode cX7_distance 13 = .ok (.bipush 64, 2) := by decide +kernel
theorem dX7_distance_15 : decode cX7_distance 15 = .ok (.irem, 1) := by decide +kernel
theorem dX7_distance_16 : decode cX7_distance 16 = .ok (.iload_n 1, 1) := by decide +kernel
theorem dX7_distance_17 : decode cX7_distance 17 = .ok (.bipush 64, 2) := by decide +kernel
theorem dX7_distance_19 : decode cX7_distance 19 = .ok (.irem, 1) := by decide +kernel
theorem dX7_distance_20 : decode cX7_distance 20 = .ok (.isub, 1) := by decide +kernel
theorem dX7_distance_21 : decode cX7_distance 21 = .ok (.invokestatic 281, 3) := by decide +kernel
theorem dX7_distance_24 : decode cX7_distance 24 = .ok (.iadd, 1) := by decide +kernel
theorem dX7_distance_25 : decode cX7_distance 25 = .ok (.ireturn, 1) := by decide +kernel
set_option maxHeartbeats 4000000 in
set_option maxRecDepth 100000 in
theorem t_X7_distance {l : Launch} {g : zG} {d : Nat} {s : zS} (hR : zRok s) {p0 : Int32} {p1 : Int32} {K : Int32 → zS → Prop} (h : K ((zabs ((p0 / (64 : Int32)) - (p1 / (64 : Int32)))) + (zabs ((p0 % (64 : Int32)) - (p1 % (64 : Int32))))) s) : zc l g (d + 1) M_X7_distance [.int p0, .int p1] s (zKi K) := by
  refine zCall_of k_X7_distance (Nat.le_of_ble_eq_true rfl) (Nat.le_refl _) (fun _ => ?_)
  show zt l g (d + 1) M_X7_distance 0 [.int p0, .int p1] [] s (zKi K)
  refine z_iload_n (i := 0) dX7_distance_0 rfl rfl rfl ?_
  refine z_bipush (v := (64 : Int32)) dX7_distance_1 (by decide) rfl ?_
  refine z_idiv dX7_distance_3 (by decide) rfl ?_
  refine z_iload_n (i := 1) dX7_distance_4 rfl rfl rfl ?_
  refine z_bipush (v := (64 : Int32)) dX7_distance_5 (by decide) rfl ?_
  refine z_idiv dX7_distance_7 (by decide) rfl ?_
  refine z_isub dX7_distance_8 rfl ?_
  refine z_mabs m_X7_281 dX7_distance_9 (Nat.le_of_ble_eq_true rfl) rfl ?_
  refine z_iload_n (i := 0) dX7_distance_12 rfl rfl rfl ?_
  refine z_bipush (v := (64 : Int32)) dX7_distance_13 (by decide) rfl ?_
  refine z_irem dX7_distance_15 (by decide) rfl ?_
  refine z_iload_n (i := 1) dX7_distance_16 rfl rfl rfl ?_
  refine z_bipush (v := (64 : Int32)) dX7_distance_17 (by decide) rfl ?_
  refine z_irem dX7_distance_19 (by decide) rfl ?_
  refine z_isub dX7_distance_20 rfl ?_
  refine z_mabs m_X7_281 dX7_distance_21 (Nat.le_of_ble_eq_true rfl) rfl ?_
  refine z_iadd dX7_distance_24 rfl ?_
  exact z_ret (some (.int ((zabs ((p0 / (64 : Int32)) - (p1 / (64 : Int32)))) + (zabs ((p0 % (64 : Int32)) - (p1 % (64 : Int32))))))) (Or.inr (Or.inl ⟨_, _, rfl, rfl, rfl, dX7_distance_25⟩)) zN200 ⟨_, rfl, h⟩
theorem dX7_ceilDiv_0 : decode cX7_ceilDiv 0 = .ok (.iload_n 1, 1) := by decide +kernel
theorem dX7_ceilDiv_1 : decode cX7_ceilDiv 1 = .ok (.iconst 1, 1) := by decide +kernel
theorem dX7_ceilDiv_2 : decode cX7_ceilDiv 2 = .ok (.if_icmp .ge 7, 3) := by decide +kernel
theorem dX7_ceilDiv_5 : decode cX7_ceilDiv 5 = .ok (.iload_n 0, 1) := by decide +kernel
theorem dX7_ceilDiv_6 : decode cX7_ceilDiv 6 = .ok (.goto 10, 3) := by decide +kernel
theorem dX7_ceilDiv_9 : decode cX7_ceilDiv 9 = .ok (.iload_n 0, 1) := by decide +kernel
theorem dX7_ceilDiv_10 : decode cX7_ceilDiv 10 = .ok (.ineg, 1) := by decide +kernel
theorem dX7_ceilDiv_11 : decode cX7_ceilDiv 11 = .ok (.iload_n 1, 1) := by decide +kernel
theorem dX7_ceilDiv_12 : decode cX7_ceilDiv 12 = .ok (.invokestatic 398, 3) := by decide +kernel
theorem dX7_ceilDiv_15 : decode cX7_ceilDiv 15 = .ok (.ineg, 1) := by decide +kernel
theorem dX7_ceilDiv_16 : decode cX7_ceilDiv 16 = .ok (.ireturn, 1) := by decide +kernel
set_option maxHeartbeats 4000000 in
set_option maxRecDepth 100000 in
theorem t_X7_ceilDiv {l : Launch} {g : zG} {d : Nat} {s : zS} (hR : zRok s) {p0 : Int32} {p1 : Int32} {K : Int32 → zS → Prop} (h : (if (1 : Int32) ≤ p1 then (¬ p1 = 0 ∧ K (-(zfd (-p0) p1)) s) else K p0 s)) : zc l g (d + 1) M_X7_ceilDiv [.int p0, .int p1] s (zKi K) := by
  refine zCall_of k_X7_ceilDiv (Nat.le_of_ble_eq_true rfl) (Nat.le_refl _) (fun _ => ?_)
  show zt l g (d + 1) M_X7_ceilDiv 0 [.int p0, .int p1] [] s (zKi K)
  refine z_iload_n (i := 1) dX7_ceilDiv_0 rfl rfl rfl ?_
  refine z_iconst (v := (1 : Int32)) dX7_ceilDiv_1 (by decide) rfl ?_
  refine z_icmp_ge (pt := 9) dX7_ceilDiv_2 (by decide) rfl (fun c => ?_) (fun c => ?_)
  · have h := zit h c
    refine z_iload_n (i := 0) dX7_ceilDiv_9 rfl rfl rfl ?_
    refine z_ineg dX7_ceilDiv_10 rfl ?_
    refine z_iload_n (i := 1) dX7_ceilDiv_11 rfl rfl rfl ?_
    obtain ⟨a1, h⟩ := h
    refine z_fdiv m_X7_398 a1 dX7_ceilDiv_12 (Nat.le_of_ble_eq_true rfl) rfl ?_
    refine z_ineg dX7_ceilDiv_15 rfl ?_
    exact z_ret (some (.int (-(zfd (-p0) p1)))) (Or.inr (Or.inl ⟨_, _, rfl, rfl, rfl, dX7_ceilDiv_16⟩)) zN200 ⟨_, rfl, h⟩
  · have h := zif h c
    refine z_iload_n (i := 0) dX7_ceilDiv_5 rfl rfl rfl ?_
    refine z_goto (pn := 16) dX7_ceilDiv_6 (by decide) ?_
    exact z_ret (some (.int p0)) (Or.inr (Or.inl ⟨_, _, rfl, rfl, rfl, dX7_ceilDiv_16⟩)) zN200 ⟨_, rfl, h⟩
theorem dX7_wayOf_0 : decode cX7_wayOf 0 = .ok (.iload_n 0, 1) := by decide +kernel
theorem dX7_wayOf_1 : decode cX7_wayOf 1 = .ok (.invokestatic 281, 3) := by decide +kernel
theorem dX7_wayOf_4 : decode cX7_wayOf 4 = .ok (.iload_n 1, 1) := by decide +kernel
theorem dX7_wayOf_5 : decode cX7_wayOf 5 = .ok (.invokestatic 281, 3) := by decide +kernel
theorem dX7_wayOf_8 : decode cX7_wayOf 8 = .ok (.iadd, 1) := by decide +kernel
theorem dX7_wayOf_9 : decode cX7_wayOf 9 = .ok (.istore_n 2, 1) := by decide +kernel
theorem dX7_wayOf_10 : decode cX7_wayOf 10 = .ok (.iload_n 2, 1) := by decide +kernel
theorem dX7_wayOf_11 : decode cX7_wayOf 11 = .ok (.ifCond .ne 5, 3) := by decide +kernel
theorem dX7_wayOf_14 : decode cX7_wayOf 14 = .ok (.iconst 0, 1) := by decide +kernel
theorem dX7_wayOf_15 : decode cX7_wayOf 15 = .ok (.ireturn, 1) := by decide +kernel
theorem dX7_wayOf_16 : decode cX7_wayOf 16 = .ok (.iload_n 0, 1) := by decide +kernel
theorem dX7_wayOf_17 : decode cX7_wayOf 17 = .ok (.ifCond .le 14, 3) := by decide +kernel
theorem dX7_wayOf_20 : decode cX7_wayOf 20 = .ok (.iload_n 1, 1) := by decide +kernel
theorem dX7_wayOf_21 : decode cX7_wayOf 21 = .ok (.ifCond .lt 10, 3) := by decide +kernel
theorem dX7_wayOf_24 : decode cX7_wayOf 24 = .ok (.bipush 64, 2) := by decide +kernel
theorem dX7_wayOf_26 : decode cX7_wayOf 26 = .ok (.iload_n 1, 1) := by decide +kernel
theorem dX7_wayOf_27 : decode cX7_wayOf 27 = .ok (.imul, 1) := by decide +kernel
theorem dX7_wayOf_28 : decode cX7_wayOf 28 = .ok (.iload_n 2, 1) := by decide +kernel
theorem dX7_wayOf_29 : decode cX7_wayOf 29 = .ok (.idiv, 1) := by decide +kernel
theorem dX7_wayOf_30 : decode cX7_wayOf 30 = .ok (.ireturn, 1) := by decide +kernel
theorem dX7_wayOf_31 : decode cX7_wayOf 31 = .ok (.iload_n 0, 1) := by decide +kernel
theorem dX7_wayOf_32 : decode cX7_wayOf 32 = .ok (.ifCond .gt 18, 3) := by decide +kernel
theorem dX7_wayOf_35 : decode cX7_wayOf 35 = .ok (.iload_n 1, 1) := by decide +kernel
theorem dX7_wayOf_36 : decode cX7_wayOf 36 = .ok (.ifCond .le 14, 3) := by decide +kernel
theorem dX7_wayOf_39 : decode cX7_wayOf 39 = .ok (.bipush 64, 2) := by decide +kernel
theorem dX7_wayOf_41 : decode cX7_wayOf 41 = .ok (.bipush 64, 2) := by decide +kernel
theorem dX7_wayOf_43 : decode cX7_wayOf 43 = .ok (.iload_n 0, 1) := by decide +kernel
theorem dX7_wayOf_44 : decode cX7_wayOf 44 = .ok (.ineg, 1) := by decide +kernel
theorem dX7_wayOf_45 : decode cX7_wayOf 45 = .ok (.imul, 1) := by decide +kernel
theorem dX7_wayOf_46 : decode cX7_wayOf 46 = .ok (.iload_n 2, 1) := by decide +kernel
theorem dX7_wayOf_47 : decode cX7_wayOf 47 = .ok (.idiv, 1) := by decide +kernel
theorem dX7_wayOf_48 : decode cX7_wayOf 48 = .ok (.iadd, 1) := by decide +kernel
theorem dX7_wayOf_49 : decode cX7_wayOf 49 = .ok (.ireturn, 1) := by decide +kernel
theorem dX7_wayOf_50 : decode cX7_wayOf 50 = .ok (.iload_n 0, 1) := by decide +kernel
theorem dX7_wayOf_51 : decode cX7_wayOf 51 = .ok (.ifCond .ge 15, 3) := by decide +kernel
theorem dX7_wayOf_54 : decode cX7_wayOf 54 = .ok (.sipush 128, 3) := by decide +kernel
theorem dX7_wayOf_57 : decode cX7_wayOf 57 = .ok (.bipush 64, 2) := by decide +kernel
theorem dX7_wayOf_59 : decode cX7_wayOf 59 = .ok (.iload_n 1, 1) := by decide +kernel
theorem dX7_wayOf_60 : decode cX7_wayOf 60 = .ok (.ineg, 1) := by decide +kernel
theorem dX7_wayOf_61 : decode cX7_wayOf 61 = .ok (.imul, 1) := by decide +kernel
theorem dX7_wayOf_62 : decode cX7_wayOf 62 = .ok (.iload_n 2, 1) := by decide +kernel
theorem dX7_wayOf_63 : decode cX7_wayOf 63 = .ok (.idiv, 1) := by decide +kernel
theorem dX7_wayOf_64 : decode cX7_wayOf 64 = .ok (.iadd, 1) := by decide +kernel
theorem dX7_wayOf_65 : decode cX7_wayOf 65 = .ok (.ireturn, 1) := by decide +kernel
theorem dX7_wayOf_66 : decode cX7_wayOf 66 = .ok (.sipush 192, 3) := by decide +kernel
theorem dX7_wayOf_69 : decode cX7_wayOf 69 = .ok (.bipush 64, 2) := by decide +kernel
theorem dX7_wayOf_71 : decode cX7_wayOf 71 = .ok (.iload_n 0, 1) := by decide +kernel
theorem dX7_wayOf_72 : decode cX7_wayOf 72 = .ok (.imul, 1) := by decide +kernel
theorem dX7_wayOf_73 : decode cX7_wayOf 73 = .ok (.iload_n 2, 1) := by decide +kernel
theorem dX7_wayOf_74 : decode cX7_wayOf 74 = .ok (.idiv, 1) := by decide +kernel
theorem dX7_wayOf_75 : decode cX7_wayOf 75 = .ok (.iadd, 1) := by decide +kernel
theorem dX7_wayOf_76 : decode cX7_wayOf 76 = .ok (.ireturn, 1) := by decide +kernel
set_option maxHeartbeats 4000000 in
set_option maxRecDepth 100000 in
theorem t_X7_wayOf {l : Launch} {g : zG} {d : Nat} {s : zS} (hR : zRok s) {p0 : Int32} {p1 : Int32} {K : Int32 → zS → Prop} (h : (if ((zabs p0) + (zabs p1)) = 0 then K (0 : Int32) s else (if p0 ≤ 0 then (if 0 < p0 then (if 0 ≤ p0 then (¬ ((zabs p0) + (zabs p1)) = 0 ∧ K ((192 : Int32) + (((64 : Int32) * p0) / ((zabs p0) + (zabs p1)))) s) else (¬ ((zabs p0) + (zabs p1)) = 0 ∧ K ((128 : Int32) + (((64 : Int32) * (-p1)) / ((zabs p0) + (zabs p1)))) s)) else (if p1 ≤ 0 then (if 0 ≤ p0 then (¬ ((zabs p0) + (zabs p1)) = 0 ∧ K ((192 : Int32) + (((64 : Int32) * p0) / ((zabs p0) + (zabs p1)))) s) else (¬ ((zabs p0) + (zabs p1)) = 0 ∧ K ((128 : Int32) + (((64 : Int32) * (-p1)) / ((zabs p0) + (zabs p1)))) s)) else (¬ ((zabs p0) + (zabs p1)) = 0 ∧ K ((64 : Int32) + (((64 : Int32) * (-p0)) / ((zabs p0) + (zabs p1)))) s))) else (if p1 < 0 then (if 0 < p0 then (if 0 ≤ p0 then (¬ ((zabs p0) + (zabs p1)) = 0 ∧ K ((192 : Int32) + (((64 : Int32) * p0) / ((zabs p0) + (zabs p1)))) s) else (¬ ((zabs p0) + (zabs p1)) = 0 ∧ K ((128 : Int32) + (((64 : Int32) * (-p1)) / ((zabs p0) + (zabs p1)))) s)) else (if p1 ≤ 0 then (if 0 ≤ p0 then (¬ ((zabs p0) + (zabs p1)) = 0 ∧ K ((192 : Int32) + (((64 : Int32) * p0) / ((zabs p0) + (zabs p1)))) s) else (¬ ((zabs p0) + (zabs p1)) = 0 ∧ K ((128 : Int32) + (((64 : Int32) * (-p1)) / ((zabs p0) + (zabs p1)))) s)) else (¬ ((zabs p0) + (zabs p1)) = 0 ∧ K ((64 : Int32) + (((64 : Int32) * (-p0)) / ((zabs p0) + (zabs p1)))) s))) else (¬ ((zabs p0) + (zabs p1)) = 0 ∧ K (((64 : Int32) * p1) / ((zabs p0) + (zabs p1))) s))))) : zc l g (d + 1) M_X7_wayOf [.int p0, .int p1] s (zKi K) := by
  refine zCall_of k_X7_wayOf (Nat.le_of_ble_eq_true rfl) (Nat.le_refl _) (fun _ => ?_)
  show zt l g (d + 1) M_X7_wayOf 0 [.int p0, .int p1, zJ] [] s (zKi K)
  refine z_iload_n (i := 0) dX7_wayOf_0 rfl rfl rfl ?_
  refine z_mabs m_X7_281 dX7_wayOf_1 (Nat.le_of_ble_eq_true rfl) rfl ?_
  refine z_iload_n (i := 1) dX7_wayOf_4 rfl rfl rfl ?_
  refine z_mabs m_X7_281 dX7_wayOf_5 (Nat.le_of_ble_eq_true rfl) rfl ?_
  refine z_iadd dX7_wayOf_8 rfl ?_
  refine z_istore_n (i := 2) dX7_wayOf_9 rfl (by decide) (zokd rfl) rfl ?_
  show zt l g (d + 1) M_X7_wayOf 10 [.int p0, .int p1, .int ((zabs p0) + (zabs p1))] [] s _
  refine z_iload_n (i := 2) dX7_wayOf_10 rfl rfl rfl ?_
  refine z_if_ne (pt := 16) dX7_wayOf_11 (by decide) rfl (fun c => ?_) (fun c => ?_)
  · have h := zif h c
    refine z_iload_n (i := 0) dX7_wayOf_16 rfl rfl rfl ?_
    refine z_if_le (pt := 31) dX7_wayOf_17 (by decide) rfl (fun c => ?_) (fun c => ?_)
    · have h := zit h c
      refine z_iload_n (i := 0) dX7_wayOf_31 rfl rfl rfl ?_
      refine z_if_gt (pt := 50) dX7_wayOf_32 (by decide) rfl (fun c => ?_) (fun c => ?_)
      · have h := zit h c
        refine z_iload_n (i := 0) dX7_wayOf_50 rfl rfl rfl ?_
        refine z_if_ge (pt := 66) dX7_wayOf_51 (by decide) rfl (fun c => ?_) (fun c => ?_)
        · have h := zit h c
          refine z_sipush (v := (192 : Int32)) dX7_wayOf_66 (by decide) rfl ?_
          refine z_bipush (v := (64 : Int32)) dX7_wayOf_69 (by decide) rfl ?_
          refine z_iload_n (i := 0) dX7_wayOf_71 rfl rfl rfl ?_
          refine z_imul dX7_wayOf_72 rfl ?_
          refine z_iload_n (i := 2) dX7_wayOf_73 rfl rfl rfl ?_
          obtain ⟨a1, h⟩ := h
          refine z_idiv dX7_wayOf_74 a1 rfl ?_
          refine z_iadd dX7_wayOf_75 rfl ?_
          exact z_ret (some (.int ((192 : Int32) + (((64 : Int32) * p0) / ((zabs p0) + (zabs p1)))))) (Or.inr (Or.inl ⟨_, _, rfl, rfl, rfl, dX7_wayOf_76⟩)) zN200 ⟨_, rfl, h⟩
        · have h := zif h c
          refine z_sipush (v := (128 : Int32)) dX7_wayOf_54 (by decide) rfl ?_
          refine z_bipush (v := (64 : Int32)) dX7_wayOf_57 (by decide) rfl ?_
          refine z_iload_n (i := 1) dX7_wayOf_59 rfl rfl rfl ?_
          refine z_ineg dX7_wayOf_60 rfl ?_
          refine z_imul dX7_wayOf_61 rfl ?_
          refine z_iload_n (i := 2) dX7_wayOf_62 rfl rfl rfl ?_
          obtain ⟨a2, h⟩ := h
          refine z_idiv dX7_wayOf_63 a2 rfl ?_
          refine z_iadd dX7_wayOf_64 rfl ?_
          exact z_ret (some (.int ((128 : Int32) + (((64 : Int32) * (-p1)) / ((zabs p0) + (zabs p1)))))) (Or.inr (Or.inl ⟨_, _, rfl, rfl, rfl, dX7_wayOf_65⟩)) zN200 ⟨_, rfl, h⟩
      · have h := zif h c
        refine z_iload_n (i := 1) dX7_wayOf_35 rfl rfl rfl ?_
        refine z_if_le (pt := 50) dX7_wayOf_36 (by decide) rfl (fun c => ?_) (fun c => ?_)
        · have h := zit h c
          refine z_iload_n (i := 0) dX7_wayOf_50 rfl rfl rfl ?_
          refine z_if_ge (pt := 66) dX7_wayOf_51 (by decide) rfl (fun c => ?_) (fun c => ?_)
          · have h := zit h c
            refine z_sipush (v := (192 : Int32)) dX7_wayOf_66 (by decide) rfl ?_
            refine z_bipush (v := (64 : Int32)) dX7_wayOf_69 (by decide) rfl ?_
            refine z_iload_n (i := 0) dX7_wayOf_71 rfl rfl rfl ?_
            refine z_imul dX7_wayOf_72 rfl ?_
            refine z_iload_n (i := 2) dX7_wayOf_73 rfl rfl rfl ?_
            obtain ⟨a3, h⟩ := h
            refine z_idiv dX7_wayOf_74 a3 rfl ?_
            refine z_iadd dX7_wayOf_75 rfl ?_
            exact z_ret (some (.int ((192 : Int32) + (((64 : Int32) * p0) / ((zabs p0) + (zabs p1)))))) (Or.inr (Or.inl ⟨_, _, rfl, rfl, rfl, dX7_wayOf_76⟩)) zN200 ⟨_, rfl, h⟩
          · have h := zif h c
            refine z_sipush (v := (128 : Int32)) dX7_wayOf_54 (by decide) rfl ?_
            refine z_bipush (v := (64 : Int32)) dX7_wayOf_57 (by decide) rfl ?_
            refine z_iload_n (i := 1) dX7_wayOf_59 rfl rfl rfl ?_
            refine z_ineg dX7_wayOf_60 rfl ?_
            refine z_imul dX7_wayOf_61 rfl ?_
            refine z_iload_n (i := 2) dX7_wayOf_62 rfl rfl rfl ?_
            obtain ⟨a4, h⟩ := h
            refine z_idiv dX7_wayOf_63 a4 rfl ?_
            refine z_iadd dX7_wayOf_64 rfl ?_
            exact z_ret (some (.int ((128 : Int32) + (((64 : Int32) * (-p1)) / ((zabs p0) + (zabs p1)))))) (Or.inr (Or.inl ⟨_, _, rfl, rfl, rfl, dX7_wayOf_65⟩)) zN200 ⟨_, rfl, h⟩
        · have h := zif h c
          refine z_bipush (v := (64 : Int32)) dX7_wayOf_39 (by decide) rfl ?_
          refine z_bipush (v := (64 : Int32)) dX7_wayOf_41 (by decide) rfl ?_
          refine z_iload_n (i := 0) dX7_wayOf_43 rfl rfl rfl ?_
          refine z_ineg dX7_wayOf_44 rfl ?_
          refine z_imul dX7_wayOf_45 rfl ?_
          refine z_iload_n (i := 2) dX7_wayOf_46 rfl rfl rfl ?_
          obtain ⟨a5, h⟩ := h
          refine z_idiv dX7_wayOf_47 a5 rfl ?_
          refine z_iadd dX7_wayOf_48 rfl ?_
          exact z_ret (some (.int ((64 : Int32) + (((64 : Int32) * (-p0)) / ((zabs p0) + (zabs p1)))))) (Or.inr (Or.inl ⟨_, _, rfl, rfl, rfl, dX7_wayOf_49⟩)) zN200 ⟨_, rfl, h⟩
    · have h := zif h c
      refine z_iload_n (i := 1) dX7_wayOf_20 rfl rfl rfl ?_
      refine z_if_lt (pt := 31) dX7_wayOf_21 (by decide) rfl (fun c => ?_) (fun c => ?_)
      · have h := zit h c
        refine z_iload_n (i := 0) dX7_wayOf_31 rfl rfl rfl ?_
        refine z_if_gt (pt := 50) dX7_wayOf_32 (by decide) rfl (fun c => ?_) (fun c => ?_)
        · have h := zit h c
          refine z_iload_n (i := 0) dX7_wayOf_50 rfl rfl rfl ?_
          refine z_if_ge (pt := 66) dX7_wayOf_51 (by decide) rfl (fun c => ?_) (fun c => ?_)
          · have h := zit h c
            refine z_sipush (v := (192 : Int32)) dX7_wayOf_66 (by decide) rfl ?_
            refine z_bipush (v := (64 : Int32)) dX7_wayOf_69 (by decide) rfl ?_
            refine z_iload_n (i := 0) dX7_wayOf_71 rfl rfl rfl ?_
            refine z_imul dX7_wayOf_72 rfl ?_
            refine z_iload_n (i := 2) dX7_wayOf_73 rfl rfl rfl ?_
            obtain ⟨a6, h⟩ := h
            refine z_idiv dX7_wayOf_74 a6 rfl ?_
            refine z_iadd dX7_wayOf_75 rfl ?_
            exact z_ret (some (.int ((192 : Int32) + (((64 : Int32) * p0) / ((zabs p0) + (zabs p1)))))) (Or.inr (Or.inl ⟨_, _, rfl, rfl, rfl, dX7_wayOf_76⟩)) zN200 ⟨_, rfl, h⟩
          · have h := zif h c
            refine z_sipush (v := (128 : Int32)) dX7_wayOf_54 (by decide) rfl ?_
            refine z_bipush (v := (64 : Int32)) dX7_wayOf_57 (by decide) rfl ?_
            refine z_iload_n (i := 1) dX7_wayOf_59 rfl rfl rfl ?_
            refine z_ineg dX7_wayOf_60 rfl ?_
            refine z_imul dX7_wayOf_61 rfl ?_
            refine z_iload_n (i := 2) dX7_wayOf_62 rfl rfl rfl ?_
            obtain ⟨a7, h⟩ := h
            refine z_idiv dX7_wayOf_63 a7 rfl ?_
            refine z_iadd dX7_wayOf_64 rfl ?_
            exact z_ret (some (.int ((128 : Int32) + (((64 : Int32) * (-p1)) / ((zabs p0) + (zabs p1)))))) (Or.inr (Or.inl ⟨_, _, rfl, rfl, rfl, dX7_wayOf_65⟩)) zN200 ⟨_, rfl, h⟩
        · have h := zif h c
          refine z_iload_n (i := 1) dX7_wayOf_35 rfl rfl rfl ?_
          refine z_if_le (pt := 50) dX7_wayOf_36 (by decide) rfl (fun c => ?_) (fun c => ?_)
          · have h := zit h c
            refine z_iload_n (i := 0) dX7_wayOf_50 rfl rfl rfl ?_
            refine z_if_ge (pt := 66) dX7_wayOf_51 (by decide) rfl (fun c => ?_) (fun c => ?_)
            · have h := zit h c
              refine z_sipush (v := (192 : Int32)) dX7_wayOf_66 (by decide) rfl ?_
              refine z_bipush (v := (64 : Int32)) dX7_wayOf_69 (by decide) rfl ?_
              refine z_iload_n (i := 0) dX7_wayOf_71 rfl rfl rfl ?_
              refine z_imul dX7_wayOf_72 rfl ?_
              refine z_iload_n (i := 2) dX7_wayOf_73 rfl rfl rfl ?_
              obtain ⟨a8, h⟩ := h
              refine z_idiv dX7_wayOf_74 a8 rfl ?_
              refine z_iadd dX7_wayOf_75 rfl ?_
              exact z_ret (some (.int ((192 : Int32) + (((64 : Int32) * p0) / ((zabs p0) + (zabs p1)))))) (Or.inr (Or.inl ⟨_, _, rfl, rfl, rfl, dX7_wayOf_76⟩)) zN200 ⟨_, rfl, h⟩
            · have h := zif h c
              refine z_sipush (v := (128 : Int32)) dX7_wayOf_54 (by decide) rfl ?_
              refine z_bipush (v := (64 : Int32)) dX7_wayOf_57 (by decide) rfl ?_
              refine z_iload_n (i := 1) dX7_wayOf_59 rfl rfl rfl ?_
              refine z_ineg dX7_wayOf_60 rfl ?_
              refine z_imul dX7_wayOf_61 rfl ?_
              refine z_iload_n (i := 2) dX7_wayOf_62 rfl rfl rfl ?_
              obtain ⟨a9, h⟩ := h
              refine z_idiv dX7_wayOf_63 a9 rfl ?_
              refine z_iadd dX7_wayOf_64 rfl ?_
              exact z_ret (some (.int ((128 : Int32) + (((64 : Int32) * (-p1)) / ((zabs p0) + (zabs p1)))))) (Or.inr (Or.inl ⟨_, _, rfl, rfl, rfl, dX7_wayOf_65⟩)) zN200 ⟨_, rfl, h⟩
          · have h := zif h c
            refine z_bipush (v := (64 : Int32)) dX7_wayOf_39 (by decide) rfl ?_
            refine z_bipush (v := (64 : Int32)) dX7_wayOf_41 (by decide) rfl ?_
            refine z_iload_n (i := 0) dX7_wayOf_43 rfl rfl rfl ?_
            refine z_ineg dX7_wayOf_44 rfl ?_
            refine z_imul dX7_wayOf_45 rfl ?_
            refine z_iload_n (i := 2) dX7_wayOf_46 rfl rfl rfl ?_
            obtain ⟨a10, h⟩ := h
            refine z_idiv dX7_wayOf_47 a10 rfl ?_
            refine z_iadd dX7_wayOf_48 rfl ?_
            exact z_ret (some (.int ((64 : Int32) + (((64 : Int32) * (-p0)) / ((zabs p0) + (zabs p1)))))) (Or.inr (Or.inl ⟨_, _, rfl, rfl, rfl, dX7_wayOf_49⟩)) zN200 ⟨_, rfl, h⟩
      · have h := zif h c
        refine z_bipush (v := (64 : Int32)) dX7_wayOf_24 (by decide) rfl ?_
        refine z_iload_n (i := 1) dX7_wayOf_26 rfl rfl rfl ?_
        refine z_imul dX7_wayOf_27 rfl ?_
        refine z_iload_n (i := 2) dX7_wayOf_28 rfl rfl rfl ?_
        obtain ⟨a11, h⟩ := h
        refine z_idiv dX7_wayOf_29 a11 rfl ?_
        exact z_ret (some (.int (((64 : Int32) * p1) / ((zabs p0) + (zabs p1))))) (Or.inr (Or.inl ⟨_, _, rfl, rfl, rfl, dX7_wayOf_30⟩)) zN200 ⟨_, rfl, h⟩
  · have h := zit h c
    refine z_iconst (v := (0 : Int32)) dX7_wayOf_14 (by decide) rfl ?_
    exact z_ret (some (.int (0 : Int32))) (Or.inr (Or.inl ⟨_, _, rfl, rfl, rfl, dX7_wayOf_15⟩)) zN200 ⟨_, rfl, h⟩
theorem dX7_slopeOf_0 : decode cX7_slopeOf 0 = .ok (.iload_n 1, 1) := by decide +kernel
theorem dX7_slopeOf_1 : decode cX7_slopeOf 1 = .ok (.ifCond .ne 7, 3) := by decide +kernel
theorem dX7_slopeOf_4 : decode cX7_slopeOf 4 = .ok (.sipush 999, 3) := by decide +kernel
theorem dX7_slopeOf_7 : decode cX7_slopeOf 7 = .ok (.ireturn, 1) := by decide +kernel
theorem dX7_slopeOf_8 : decode cX7_slopeOf 8 = .ok (.sipush (-999), 3) := by decide +kernel
theorem dX7_slopeOf_11 : decode cX7_slopeOf 11 = .ok (.bipush 100, 2) := by decide +kernel
theorem dX7_slopeOf_13 : decode cX7_slopeOf 13 = .ok (.iload_n 0, 1) := by decide +kernel
theorem dX7_slopeOf_14 : decode cX7_slopeOf 14 = .ok (.imul, 1) := by decide +kernel
theorem dX7_slopeOf_15 : decode cX7_slopeOf 15 = .ok (.iload_n 1, 1) := by decide +kernel
theorem dX7_slopeOf_16 : decode cX7_slopeOf 16 = .ok (.invokestatic 398, 3) := by decide +kernel
theorem dX7_slopeOf_19 : decode cX7_slopeOf 19 = .ok (.sipush 999, 3) := by decide +kernel
theorem dX7_slopeOf_22 : decode cX7_slopeOf 22 = .ok (.invokestatic 401, 3) := by decide +kernel
theorem dX7_slopeOf_25 : decode cX7_slopeOf 25 = .ok (.ireturn, 1) := by decide +kernel
set_option maxHeartbeats 4000000 in
set_option maxRecDepth 100000 in
theorem t_X7_slopeOf {l : Launch} {g : zG} {d : Nat} {s : zS} (hR : zRok s) {p0 : Int32} {p1 : Int32} {K : Int32 → zS → Prop} (h : (if p1 = 0 then K (999 : Int32) s else (¬ p1 = 0 ∧ (zc l g d M_X7_within [.int (-999 : Int32), .int (zfd ((100 : Int32) * p0) p1), .int (999 : Int32)] s (zKi (fun r3 s2 => s2.2.2.1 = s.2.2.1 ∧ K r3 s2)))))) : zc l g (d + 1) M_X7_slopeOf [.int p0, .int p1] s (zKi K) := by
  refine zCall_of k_X7_slopeOf (Nat.le_of_ble_eq_true rfl) (Nat.le_refl _) (fun _ => ?_)
  show zt l g (d + 1) M_X7_slopeOf 0 [.int p0, .int p1] [] s (zKi K)
  refine z_iload_n (i := 1) dX7_slopeOf_0 rfl rfl rfl ?_
  refine z_if_ne (pt := 8) dX7_slopeOf_1 (by decide) rfl (fun c => ?_) (fun c => ?_)
  · have h := zif h c
    refine z_sipush (v := (-999 : Int32)) dX7_slopeOf_8 (by decide) rfl ?_
    refine z_bipush (v := (100 : Int32)) dX7_slopeOf_11 (by decide) rfl ?_
    refine z_iload_n (i := 0) dX7_slopeOf_13 rfl rfl rfl ?_
    refine z_imul dX7_slopeOf_14 rfl ?_
    refine z_iload_n (i := 1) dX7_slopeOf_15 rfl rfl rfl ?_
    obtain ⟨a1, h⟩ := h
    refine z_fdiv m_X7_398 a1 dX7_slopeOf_16 (Nat.le_of_ble_eq_true rfl) rfl ?_
    refine z_sipush (v := (999 : Int32)) dX7_slopeOf_19 (by decide) rfl ?_
    refine z_callS (as := [.int (-999 : Int32), .int (zfd ((100 : Int32) * p0) p1), .int (999 : Int32)]) k_X7_within m_X7_401 rfl h rfl (Nat.le_of_ble_eq_true rfl) dX7_slopeOf_22 zy200 rfl ?_
    rintro v s2 ⟨r3, rfl, hRs2, h⟩
    show zt l g (d + 1) M_X7_slopeOf 25 [.int p0, .int p1] [.int r3] s2 _
    exact z_ret (some (.int r3)) (Or.inr (Or.inl ⟨_, _, rfl, rfl, rfl, dX7_slopeOf_25⟩)) zN200 ⟨_, rfl, h⟩
  · have h := zit h c
    refine z_sipush (v := (999 : Int32)) dX7_slopeOf_4 (by decide) rfl ?_
    exact z_ret (some (.int (999 : Int32))) (Or.inr (Or.inl ⟨_, _, rfl, rfl, rfl, dX7_slopeOf_7⟩)) zN200 ⟨_, rfl, h⟩
theorem dX7_within_0 : decode cX7_within 0 = .ok (.iload_n 0, 1) := by decide +kernel
theorem dX7_within_1 : decode cX7_within 1 = .ok (.iload_n 1, 1) := by decide +kernel
theorem dX7_within_2 : decode cX7_within 2 = .ok (.iload_n 2, 1) := by decide +kernel
theorem dX7_within_3 : decode cX7_within 3 = .ok (.invokestatic 370, 3) := by decide +kernel
theorem dX7_within_6 : decode cX7_within 6 = .ok (.invokestatic 383, 3) := by decide +kernel
theorem dX7_within_9 : decode cX7_within 9 = .ok (.ireturn, 1) := by decide +kernel
set_option maxHeartbeats 4000000 in
set_option maxRecDepth 100000 in
theorem t_X7_within {l : Launch} {g : zG} {d : Nat} {s : zS} (hR : zRok s) {p0 : Int32} {p1 : Int32} {p2 : Int32} {K : Int32 → zS → Prop} (h : K (zmax p0 (zmin p1 p2)) s) : zc l g (d + 1) M_X7_within [.int p0, .int p1, .int p2] s (zKi K) := by
  refine zCall_of k_X7_within (Nat.le_of_ble_eq_true rfl) (Nat.le_refl _) (fun _ => ?_)
  show zt l g (d + 1) M_X7_within 0 [.int p0, .int p1, .int p2] [] s (zKi K)
  refine z_iload_n (i := 0) dX7_within_0 rfl rfl rfl ?_
  refine z_iload_n (i := 1) dX7_within_1 rfl rfl rfl ?_
  refine z_iload_n (i := 2) dX7_within_2 rfl rfl rfl ?_
  refine z_mmin m_X7_370 dX7_within_3 (Nat.le_of_ble_eq_true rfl) rfl ?_
  refine z_mmax m_X7_383 dX7_within_6 (Nat.le_of_ble_eq_true rfl) rfl ?_
  exact z_ret (some (.int (zmax p0 (zmin p1 p2)))) (Or.inr (Or.inl ⟨_, _, rfl, rfl, rfl, dX7_within_9⟩)) zN200 ⟨_, rfl, h⟩
theorem dX7_setValues_0 : decode cX7_setValues 0 = .ok (.aload_n 0, 1) := by decide +kernel
theorem dX7_setValues_1 : decode cX7_setValues 1 = .ok (.getfield 81, 3) := by decide +kernel
theorem dX7_setValues_4 : decode cX7_setValues 4 = .ok (.iconst 0, 1) := by decide +kernel
theorem dX7_setValues_5 : decode cX7_setValues 5 = .ok (.iload_n 1, 1) := by decide +kernel
theorem dX7_setValues_6 : decode cX7_setValues 6 = .ok (.iastore, 1) := by decide +kernel
theorem dX7_setValues_7 : decode cX7_setValues 7 = .ok (.aload_n 0, 1) := by decide +kernel
theorem dX7_setValues_8 : decode cX7_setValues 8 = .ok (.getfield 81, 3) := by decide +kernel
theorem dX7_setValues_11 : decode cX7_setValues 11 = .ok (.iconst 1, 1) := by decide +kernel
theorem dX7_setValues_12 : decode cX7_setValues 12 = .ok (.iload_n 2, 1) := by decide +kernel
theorem dX7_setValues_13 : decode cX7_setValues 13 = .ok (.iastore, 1) := by decide +kernel
theorem dX7_setValues_14 : decode cX7_setValues 14 = .ok (.aload_n 0, 1) := by decide +kernel
theorem dX7_setValues_15 : decode cX7_setValues 15 = .ok (.getfield 81, 3) := by decide +kernel
theorem dX7_setValues_18 : decode cX7_setValues 18 = .ok (.iconst 2, 1) := by decide +kernel
theorem dX7_setValues_19 : decode cX7_setValues 19 = .ok (.iload_n 3, 1) := by decide +kernel
theorem dX7_setValues_20 : decode cX7_setValues 20 = .ok (.iastore, 1) := by decide +kernel
theorem dX7_setValues_21 : decode cX7_setValues 21 = .ok (.aload_n 0, 1) := by decide +kernel
theorem dX7_setValues_22 : decode cX7_setValues 22 = .ok (.getfield 81, 3) := by decide +kernel
theorem dX7_setValues_25 : decode cX7_setValues 25 = .ok (.iconst 3, 1) := by decide +kernel
theorem dX7_setValues_26 : decode cX7_setValues 26 = .ok (.iload 4, 2) := by decide +kernel
theorem dX7_setValues_28 : decode cX7_setValues 28 = .ok (.iastore, 1) := by decide +kernel
theorem dX7_setValues_29 : decode cX7_setValues 29 = .ok (.aload_n 0, 1) := by decide +kernel
theorem dX7_setValues_30 : decode cX7_setValues 30 = .ok (.getfield 81, 3) := by decide +kernel
theorem dX7_setValues_33 : decode cX7_setValues 33 = .ok (.iconst 4, 1) := by decide +kernel
theorem dX7_setValues_34 : decode cX7_setValues 34 = .ok (.iconst 0, 1) := by decide +kernel
theorem dX7_setValues_35 : decode cX7_setValues 35 = .ok (.iastore, 1) := by decide +kernel
theorem dX7_setValues_36 : decode cX7_setValues 36 = .ok (.aload_n 0, 1) := by decide +kernel
theorem dX7_setValues_37 : decode cX7_setValues 37 = .ok (.getfield 81, 3) := by decide +kernel
theorem dX7_setValues_40 : decode cX7_setValues 40 = .ok (.iconst 5, 1) := by decide +kernel
theorem dX7_setValues_41 : decode cX7_setValues 41 = .ok (.iconst 0, 1) := by decide +kernel
theorem dX7_setValues_42 : decode cX7_setValues 42 = .ok (.iastore, 1) := by decide +kernel
theorem dX7_setValues_43 : decode cX7_setValues 43 = .ok (.aload_n 0, 1) := by decide +kernel
theorem dX7_setValues_44 : decode cX7_setValues 44 = .ok (.getfield 81, 3) := by decide +kernel
theorem dX7_setValues_47 : decode cX7_setValues 47 = .ok (.bipush 6, 2) := by decide +kernel
theorem dX7_setValues_49 : decode cX7_setValues 49 = .ok (.iconst 0, 1) := by decide +kernel
theorem dX7_setValues_50 : decode cX7_setValues 50 = .ok (.iastore, 1) := by decide +kernel
theorem dX7_setValues_51 : decode cX7_setValues 51 = .ok (.return_, 1) := by decide +kernel
set_option maxHeartbeats 4000000 in
set_option maxRecDepth 100000 in
theorem t_X7_setValues {l : Launch} {g : zG} {d : Nat} {s : zS} (hR : zRok s) {p0 : Int32} {p1 : Int32} {p2 : Int32} {p3 : Int32} {K : zS → Prop} (h : K (zI (zI (zI (zI (zI (zI (zI s 91 0 p0) 91 1 p1) 91 2 p2) 91 3 p3) 91 4 (0 : Int32)) 91 5 (0 : Int32)) 91 6 (0 : Int32))) : zc l g d M_X7_setValues [.ref 64, .int p0, .int p1, .int p2, .int p3] s (zKv K) := by
  refine zCall_of k_X7_setValues (Nat.le_of_ble_eq_true rfl) (Nat.le_refl _) (fun _ => ?_)
  show zt l g d M_X7_setValues 0 [.ref 64, .int p0, .int p1, .int p2, .int p3] [] s (zKv K)
  refine z_aload_n (i := 0) dX7_setValues_0 rfl rfl rfl ?_
  refine z_getR (q := 91) f_X7_81 i_64 rfl (r_64_17 hR) (by decide) dX7_setValues_1 rfl ?_
  refine z_iconst (v := (0 : Int32)) dX7_setValues_4 (by decide) rfl ?_
  refine z_iload_n (i := 1) dX7_setValues_5 rfl rfl rfl ?_
  refine z_iast a_91 (by unfold vp_in; decide) dX7_setValues_6 rfl ?_
  show zt l g d M_X7_setValues 7 [.ref 64, .int p0, .int p1, .int p2, .int p3] [] (zI s 91 0 p0) _
  refine z_aload_n (i := 0) dX7_setValues_7 rfl rfl rfl ?_
  refine z_getR (q := 91) f_X7_81 i_64 rfl (r_64_17 hR) (by decide) dX7_setValues_8 rfl ?_
  refine z_iconst (v := (1 : Int32)) dX7_setValues_11 (by decide) rfl ?_
  refine z_iload_n (i := 2) dX7_setValues_12 rfl rfl rfl ?_
  refine z_iast a_91 (by unfold vp_in; decide) dX7_setValues_13 rfl ?_
  show zt l g d M_X7_setValues 14 [.ref 64, .int p0, .int p1, .int p2, .int p3] [] (zI (zI s 91 0 p0) 91 1 p1) _
  refine z_aload_n (i := 0) dX7_setValues_14 rfl rfl rfl ?_
  refine z_getR (q := 91) f_X7_81 i_64 rfl (r_64_17 hR) (by decide) dX7_setValues_15 rfl ?_
  refine z_iconst (v := (2 : Int32)) dX7_setValues_18 (by decide) rfl ?_
  refine z_iload_n (i := 3) dX7_setValues_19 rfl rfl rfl ?_
  refine z_iast a_91 (by unfold vp_in; decide) dX7_setValues_20 rfl ?_
  show zt l g d M_X7_setValues 21 [.ref 64, .int p0, .int p1, .int p2, .int p3] [] (zI (zI (zI s 91 0 p0) 91 1 p1) 91 2 p2) _
  refine z_aload_n (i := 0) dX7_setValues_21 rfl rfl rfl ?_
  refine z_getR (q := 91) f_X7_81 i_64 rfl (r_64_17 hR) (by decide) dX7_setValues_22 rfl ?_
  refine z_iconst (v := (3 : Int32)) dX7_setValues_25 (by decide) rfl ?_
  refine z_iload dX7_setValues_26 rfl rfl ?_
  refine z_iast a_91 (by unfold vp_in; decide) dX7_setValues_28 rfl ?_
  show zt l g d M_X7_setValues 29 [.ref 64, .int p0, .int p1, .int p2, .int p3] [] (zI (zI (zI (zI s 91 0 p0) 91 1 p1) 91 2 p2) 91 3 p3) _
  refine z_aload_n (i := 0) dX7_setValues_29 rfl rfl rfl ?_
  refine z_getR (q := 91) f_X7_81 i_64 rfl (r_64_17 hR) (by decide) dX7_setValues_30 rfl ?_
  refine z_iconst (v := (4 : Int32)) dX7_setValues_33 (by decide) rfl ?_
  refine z_iconst (v := (0 : Int32)) dX7_setValues_34 (by decide) rfl ?_
  refine z_iast a_91 (by unfold vp_in; decide) dX7_setValues_35 rfl ?_
  show zt l g d M_X7_setValues 36 [.ref 64, .int p0, .int p1, .int p2, .int p3] [] (zI (zI (zI (zI (zI s 91 0 p0) 91 1 p1) 91 2 p2) 91 3 p3) 91 4 (0 : Int32)) _
  refine z_aload_n (i := 0) dX7_setValues_36 rfl rfl rfl ?_
  refine z_getR (q := 91) f_X7_81 i_64 rfl (r_64_17 hR) (by decide) dX7_setValues_37 rfl ?_
  refine z_iconst (v := (5 : Int32)) dX7_setValues_40 (by decide) rfl ?_
  refine z_iconst (v := (0 : Int32)) dX7_setValues_41 (by decide) rfl ?_
  refine z_iast a_91 (by unfold vp_in; decide) dX7_setValues_42 rfl ?_
  show zt l g d M_X7_setValues 43 [.ref 64, .int p0, .int p1, .int p2, .int p3] [] (zI (zI (zI (zI (zI (zI s 91 0 p0) 91 1 p1) 91 2 p2) 91 3 p3) 91 4 (0 : Int32)) 91 5 (0 : Int32)) _
  refine z_aload_n (i := 0) dX7_setValues_43 rfl rfl rfl ?_
  refine z_getR (q := 91) f_X7_81 i_64 rfl (r_64_17 hR) (by decide) dX7_setValues_44 rfl ?_
  refine z_bipush (v := (6 : Int32)) dX7_setValues_47 (by decide) rfl ?_
  refine z_iconst (v := (0 : Int32)) dX7_setValues_49 (by decide) rfl ?_
  refine z_iast a_91 (by unfold vp_in; decide) dX7_setValues_50 rfl ?_
  show zt l g d M_X7_setValues 51 [.ref 64, .int p0, .int p1, .int p2, .int p3] [] (zI (zI (zI (zI (zI (zI (zI s 91 0 p0) 91 1 p1) 91 2 p2) 91 3 p3) 91 4 (0 : Int32)) 91 5 (0 : Int32)) 91 6 (0 : Int32)) _
  exact z_ret none (Or.inl ⟨rfl, rfl, dX7_setValues_51⟩) zN200 ⟨rfl, h⟩
theorem dX7_isHasty_0 : decode cX7_isHasty 0 = .ok (.aload_n 0, 1) := by decide +kernel
theorem dX7_isHasty_1 : decode cX7_isHasty 1 = .ok (.aload_n 1, 1) := by decide +kernel
theorem dX7_isHasty_2 : decode cX7_isHasty 2 = .ok (.invokevirtual 242, 3) := by decide +kernel
theorem dX7_isHasty_5 : decode cX7_isHasty 5 = .ok (.istore_n 3, 1) := by decide +kernel
theorem dX7_isHasty_6 : decode cX7_isHasty 6 = .ok (.iconst 0, 1) := by decide +kernel
theorem dX7_isHasty_7 : decode cX7_isHasty 7 = .ok (.istore 4, 2) := by decide +kernel
theorem dX7_isHasty_9 : decode cX7_isHasty 9 = .ok (.iload 4, 2) := by decide +kernel
theorem dX7_isHasty_11 : decode cX7_isHasty 11 = .ok (.aload_n 0, 1) := by decide +kernel
theorem dX7_isHasty_12 : decode cX7_isHasty 12 = .ok (.getfield 103, 3) := by decide +kernel
theorem dX7_isHasty_15 : decode cX7_isHasty 15 = .ok (.if_icmp .ge 35, 3) := by decide +kernel
theorem dX7_isHasty_18 : decode cX7_isHasty 18 = .ok (.iload_n 3, 1) := by decide +kernel
theorem dX7_isHasty_19 : decode cX7_isHasty 19 = .ok (.iload 4, 2) := by decide +kernel
theorem dX7_isHasty_21 : decode cX7_isHasty 21 = .ok (.ishr, 1) := by decide +kernel
theorem dX7_isHasty_22 : decode cX7_isHasty 22 = .ok (.iconst 1, 1) := by decide +kernel
theorem dX7_isHasty_23 : decode cX7_isHasty 23 = .ok (.iand, 1) := by decide +kernel
theorem dX7_isHasty_24 : decode cX7_isHasty 24 = .ok (.iconst 1, 1) := by decide +kernel
theorem dX7_isHasty_25 : decode cX7_isHasty 25 = .ok (.if_icmp .ne 19, 3) := by decide +kernel
theorem dX7_isHasty_28 : decode cX7_isHasty 28 = .ok (.aload_n 0, 1) := by decide +kernel
theorem dX7_isHasty_29 : decode cX7_isHasty 29 = .ok (.getfield 31, 3) := by decide +kernel
theorem dX7_isHasty_32 : decode cX7_isHasty 32 = .ok (.iload 4, 2) := by decide +kernel
theorem dX7_isHasty_34 : decode cX7_isHasty 34 = .ok (.aaload, 1) := by decide +kernel
theorem dX7_isHasty_35 : decode cX7_isHasty 35 = .ok (.getfield 164, 3) := by decide +kernel
theorem dX7_isHasty_38 : decode cX7_isHasty 38 = .ok (.iload_n 2, 1) := by decide +kernel
theorem dX7_isHasty_39 : decode cX7_isHasty 39 = .ok (.if_icmp .ne 5, 3) := by decide +kernel
theorem dX7_isHasty_42 : decode cX7_isHasty 42 = .ok (.iconst 0, 1) := by decide +kernel
theorem dX7_isHasty_43 : decode cX7_isHasty 43 = .ok (.ireturn, 1) := by decide +kernel
theorem dX7_isHasty_44 : decode cX7_isHasty 44 = .ok (.iinc 4 1, 3) := by decide +kernel
theorem dX7_isHasty_47 : decode cX7_isHasty 47 = .ok (.goto (-38), 3) := by decide +kernel
theorem dX7_isHasty_50 : decode cX7_isHasty 50 = .ok (.iload_n 3, 1) := by decide +kernel
theorem dX7_isHasty_51 : decode cX7_isHasty 51 = .ok (.ifCond .eq 7, 3) := by decide +kernel
theorem dX7_isHasty_54 : decode cX7_isHasty 54 = .ok (.iconst 1, 1) := by decide +kernel
theorem dX7_isHasty_55 : decode cX7_isHasty 55 = .ok (.goto 4, 3) := by decide +kernel
theorem dX7_isHasty_58 : decode cX7_isHasty 58 = .ok (.iconst 0, 1) := by decide +kernel
theorem dX7_isHasty_59 : decode cX7_isHasty 59 = .ok (.ireturn, 1) := by decide +kernel
set_option maxHeartbeats 4000000 in
set_option maxRecDepth 100000 in
theorem t_X7_isHasty {l : Launch} {g : zG} {d : Nat} {s : zS} (hR : zRok s) {p0 : Nat} (hp0 : 104 ≤ p0 ∧ p0 < 164) {p1 : Int32} {K : Bool → zS → Prop} (h : (zc l g d M_X7_fittingOf [.ref 64, .ref p0] s (zKi (fun r2 s1 => s1.2.2.1 = s.2.2.1 ∧ zt l g (d + 1) M_X7_isHasty 9 [.ref 64, zJ, .int p1, .int r2, .int (0 : Int32)] [] s1 (zKz K))))) : zc l g (d + 1) M_X7_isHasty [.ref 64, .ref p0, .int p1] s (zKz K) := by
  refine zCall_of k_X7_isHasty (Nat.le_of_ble_eq_true rfl) (Nat.le_refl _) (fun _ => ?_)
  show zt l g (d + 1) M_X7_isHasty 0 [.ref 64, .ref p0, .int p1, zJ, zJ] [] s (zKz K)
  refine z_aload_n (i := 0) dX7_isHasty_0 rfl rfl rfl ?_
  refine z_aload_n (i := 1) dX7_isHasty_1 rfl rfl rfl ?_
  refine z_callV k_X7_fittingOf m_X7_242 (zRec_of i_64) rfl h rfl (Nat.le_of_ble_eq_true rfl) dX7_isHasty_2 zy200 rfl ?_
  rintro v s1 ⟨r2, rfl, hRs1, h⟩
  show zt l g (d + 1) M_X7_isHasty 5 [.ref 64, .ref p0, .int p1, zJ, zJ] [.int r2] s1 _
  refine z_istore_n (i := 3) dX7_isHasty_5 rfl (by decide) (zokd rfl) rfl ?_
  show zt l g (d + 1) M_X7_isHasty 6 [.ref 64, .ref p0, .int p1, .int r2, zJ] [] s1 _
  refine z_iconst (v := (0 : Int32)) dX7_isHasty_6 (by decide) rfl ?_
  refine z_istore dX7_isHasty_7 (by decide) (zokd rfl) rfl ?_
  show zt l g (d + 1) M_X7_isHasty 9 [.ref 64, .ref p0, .int p1, .int r2, .int (0 : Int32)] [] s1 _
  refine z_wk (ls' := [.ref 64, zJ, .int p1, .int r2, .int (0 : Int32)]) ⟨Or.inr rfl, Or.inl rfl, Or.inr rfl, Or.inr rfl, Or.inr rfl, trivial⟩ ?_
  exact h
set_option maxHeartbeats 4000000 in
set_option maxRecDepth 100000 in
theorem t_X7_isHasty_9 {l : Launch} {g : zG} {d : Nat} {s : zS} (hR : zRok s) {x2 : Int32} {x3 : Int32} {x4 : Int32} {K : Bool → zS → Prop} (h : (if (s.1 64 5) ≤ x4 then (if x3 = 0 then K false s else K true s) else (if ((x3 >>> (x4 &&& 31)) &&& (1 : Int32)) = (1 : Int32) then (vp_in x4 12 ∧ (if (s.1 (92 + x4.toNatClampNeg) 0) = x2 then K false s else zt l g (d + 1) M_X7_isHasty 9 [.ref 64, zJ, .int x2, .int x3, .int (x4 + (1 : Int32))] [] s (zKz K))) else zt l g (d + 1) M_X7_isHasty 9 [.ref 64, zJ, .int x2, .int x3, .int (x4 + (1 : Int32))] [] s (zKz K)))) : zt l g (d + 1) M_X7_isHasty 9 [.ref 64, zJ, .int x2, .int x3, .int x4] [] s (zKz K) := by
  refine z_iload dX7_isHasty_9 rfl rfl ?_
  refine z_aload_n (i := 0) dX7_isHasty_11 rfl rfl rfl ?_
  refine z_getI (x := s.1 64 5) rfl f_X7_103 i_64 rfl dX7_isHasty_12 rfl ?_
  refine z_icmp_ge (pt := 50) dX7_isHasty_15 (by decide) rfl (fun c => ?_) (fun c => ?_)
  · have h := zit h c
    refine z_iload_n (i := 3) dX7_isHasty_50 rfl rfl rfl ?_
    refine z_if_eq (pt := 58) dX7_isHasty_51 (by decide) rfl (fun c => ?_) (fun c => ?_)
    · have h := zit h c
      refine z_iconst (v := (0 : Int32)) dX7_isHasty_58 (by decide) rfl ?_
      exact z_ret (some (.int (zb false))) (Or.inr (Or.inl ⟨_, _, rfl, rfl, zb_nar _, dX7_isHasty_59⟩)) zN200 ⟨_, rfl, h⟩
    · have h := zif h c
      refine z_iconst (v := (1 : Int32)) dX7_isHasty_54 (by decide) rfl ?_
      refine z_goto (pn := 59) dX7_isHasty_55 (by decide) ?_
      exact z_ret (some (.int (zb true))) (Or.inr (Or.inl ⟨_, _, rfl, rfl, zb_nar _, dX7_isHasty_59⟩)) zN200 ⟨_, rfl, h⟩
  · have h := zif h c
    refine z_iload_n (i := 3) dX7_isHasty_18 rfl rfl rfl ?_
    refine z_iload dX7_isHasty_19 rfl rfl ?_
    refine z_ishr dX7_isHasty_21 rfl ?_
    refine z_iconst (v := (1 : Int32)) dX7_isHasty_22 (by decide) rfl ?_
    refine z_iand dX7_isHasty_23 rfl ?_
    refine z_iconst (v := (1 : Int32)) dX7_isHasty_24 (by decide) rfl ?_
    refine z_icmp_ne (pt := 44) dX7_isHasty_25 (by decide) rfl (fun c => ?_) (fun c => ?_)
    · have h := zif h c
      refine z_iinc (v := x4 + (1 : Int32)) dX7_isHasty_44 rfl rfl (by decide) (zokd rfl) rfl ?_
      show zt l g (d + 1) M_X7_isHasty 47 [.ref 64, zJ, .int x2, .int x3, .int (x4 + (1 : Int32))] [] s _
      refine z_goto (pn := 9) dX7_isHasty_47 (by decide) ?_
      exact h
    · have h := zit h c
      refine z_aload_n (i := 0) dX7_isHasty_28 rfl rfl rfl ?_
      refine z_getR (q := 70) f_X7_31 i_64 rfl (r_64_4 hR) (by decide) dX7_isHasty_29 rfl ?_
      refine z_iload dX7_isHasty_32 rfl rfl ?_
      obtain ⟨a1, h⟩ := h
      have wa1 := vin a1
      refine z_aald (q := 92 + x4.toNatClampNeg) (by decide) a_70 a1 (r_70 hR a1) (by omega) dX7_isHasty_34 rfl ?_
      refine z_getI (x := s.1 (92 + x4.toNatClampNeg) 0) rfl f_X7_164 (i_Th (p_70 a1)) rfl dX7_isHasty_35 rfl ?_
      refine z_iload_n (i := 2) dX7_isHasty_38 rfl rfl rfl ?_
      refine z_icmp_ne (pt := 44) dX7_isHasty_39 (by decide) rfl (fun c => ?_) (fun c => ?_)
      · have h := zif h c
        refine z_iinc (v := x4 + (1 : Int32)) dX7_isHasty_44 rfl rfl (by decide) (zokd rfl) rfl ?_
        show zt l g (d + 1) M_X7_isHasty 47 [.ref 64, zJ, .int x2, .int x3, .int (x4 + (1 : Int32))] [] s _
        refine z_goto (pn := 9) dX7_isHasty_47 (by decide) ?_
        exact h
      · have h := zit h c
        refine z_iconst (v := (0 : Int32)) dX7_isHasty_42 (by decide) rfl ?_
        exact z_ret (some (.int (zb false))) (Or.inr (Or.inl ⟨_, _, rfl, rfl, zb_nar _, dX7_isHasty_43⟩)) zN200 ⟨_, rfl, h⟩
theorem dX7_growth_0 : decode cX7_growth 0 = .ok (.aload_n 0, 1) := by decide +kernel
theorem dX7_growth_1 : decode cX7_growth 1 = .ok (.getfield 74, 3) := by decide +kernel
theorem dX7_growth_4 : decode cX7_growth 4 = .ok (.getfield 404, 3) := by decide +kernel
theorem dX7_growth_7 : decode cX7_growth 7 = .ok (.ifCond .ne 5, 3) := by decide +kernel
theorem dX7_growth_10 : decode cX7_growth 10 = .ok (.iload_n 1, 1) := by decide +kernel
theorem dX7_growth_11 : decode cX7_growth 11 = .ok (.ireturn, 1) := by decide +kernel
theorem dX7_growth_12 : decode cX7_growth 12 = .ok (.aload_n 0, 1) := by decide +kernel
theorem dX7_growth_13 : decode cX7_growth 13 = .ok (.iload_n 1, 1) := by decide +kernel
theorem dX7_growth_14 : decode cX7_growth 14 = .ok (.iload_n 2, 1) := by decide +kernel
theorem dX7_growth_15 : decode cX7_growth 15 = .ok (.iload_n 3, 1) := by decide +kernel
theorem dX7_growth_16 : decode cX7_growth 16 = .ok (.iload 4, 2) := by decide +kernel
theorem dX7_growth_18 : decode cX7_growth 18 = .ok (.invokevirtual 316, 3) := by decide +kernel
theorem dX7_growth_21 : decode cX7_growth 21 = .ok (.iconst 1, 1) := by decide +kernel
theorem dX7_growth_22 : decode cX7_growth 22 = .ok (.aload_n 0, 1) := by decide +kernel
theorem dX7_growth_23 : decode cX7_growth 23 = .ok (.getfield 74, 3) := by decide +kernel
theorem dX7_growth_26 : decode cX7_growth 26 = .ok (.aload_n 0, 1) := by decide +kernel
theorem dX7_growth_27 : decode cX7_growth 27 = .ok (.getfield 74, 3) := by decide +kernel
theorem dX7_growth_30 : decode cX7_growth 30 = .ok (.getfield 408, 3) := by decide +kernel
theorem dX7_growth_33 : decode cX7_growth 33 = .ok (.aload_n 0, 1) := by decide +kernel
theorem dX7_growth_34 : decode cX7_growth 34 = .ok (.getfield 74, 3) := by decide +kernel
theorem dX7_growth_37 : decode cX7_growth 37 = .ok (.getfield 411, 3) := by decide +kernel
theorem dX7_growth_40 : decode cX7_growth 40 = .ok (.aload_n 0, 1) := by decide +kernel
theorem dX7_growth_41 : decode cX7_growth 41 = .ok (.getfield 81, 3) := by decide +kernel
theorem dX7_growth_44 : decode cX7_growth 44 = .ok (.invokevirtual 414, 3) := by decide +kernel
theorem dX7_growth_47 : decode cX7_growth 47 = .ok (.bipush 99, 2) := by decide +kernel
theorem dX7_growth_49 : decode cX7_growth 49 = .ok (.invokestatic 401, 3) := by decide +kernel
theorem dX7_growth_52 : decode cX7_growth 52 = .ok (.ireturn, 1) := by decide +kernel
set_option maxHeartbeats 4000000 in
set_option maxRecDepth 100000 in
theorem t_X7_growth {l : Launch} {g : zG} {d : Nat} {s : zS} (hR : zRok s) {p0 : Int32} {p1 : Int32} {p2 : Int32} {p3 : Int32} {rn : Nat} (hrn : s.2.2.1 64 15 = rn) (hrb : rn = 79 ∨ rn = 85) {K : Int32 → zS → Prop} (h : (if (s.1 rn 2) = 0 then K p0 s else (zc l g d M_X7_setValues [.ref 64, .int p0, .int p1, .int p2, .int p3] s (zKv (fun s1 => s1.2.2.1 = s.2.2.1 ∧ (zc l g d M_X3_valueOf [.ref rn, .int (s1.1 rn 3), .int (s1.1 rn 4), .ref 91] s1 (zKi (fun r3 s2 => s2.2.2.1 = s1.2.2.1 ∧ (zc l g d M_X7_within [.int (1 : Int32), .int r3, .int (99 : Int32)] s2 (zKi (fun r5 s4 => s4.2.2.1 = s2.2.2.1 ∧ K r5 s4))))))))))) : zc l g (d + 1) M_X7_growth [.ref 64, .int p0, .int p1, .int p2, .int p3] s (zKi K) := by
  refine zCall_of k_X7_growth (Nat.le_of_ble_eq_true rfl) (Nat.le_refl _) (fun _ => ?_)
  show zt l g (d + 1) M_X7_growth 0 [.ref 64, .int p0, .int p1, .int p2, .int p3] [] s (zKi K)
  refine z_aload_n (i := 0) dX7_growth_0 rfl rfl rfl ?_
  refine z_getR (q := rn) f_X7_74 i_64 rfl (hrn) (by omega) dX7_growth_1 rfl ?_
  refine z_getI (x := s.1 rn 2) rfl f_X7_404 (i_Ru hrb) rfl dX7_growth_4 rfl ?_
  refine z_if_ne (pt := 12) dX7_growth_7 (by decide) rfl (fun c => ?_) (fun c => ?_)
  · have h := zif h c
    refine z_aload_n (i := 0) dX7_growth_12 rfl rfl rfl ?_
    refine z_iload_n (i := 1) dX7_growth_13 rfl rfl rfl ?_
    refine z_iload_n (i := 2) dX7_growth_14 rfl rfl rfl ?_
    refine z_iload_n (i := 3) dX7_growth_15 rfl rfl rfl ?_
    refine z_iload dX7_growth_16 rfl rfl ?_
    refine z_callV k_X7_setValues m_X7_316 (zRec_of i_64) rfl h rfl (Nat.le_of_ble_eq_true rfl) dX7_growth_18 zy200 rfl ?_
    rintro v s1 ⟨rfl, hRs1, h⟩
    show zt l g (d + 1) M_X7_growth 21 [.ref 64, .int p0, .int p1, .int p2, .int p3] [] s1 _
    refine z_iconst (v := (1 : Int32)) dX7_growth_21 (by decide) rfl ?_
    refine z_aload_n (i := 0) dX7_growth_22 rfl rfl rfl ?_
    refine z_getR (q := rn) f_X7_74 i_64 rfl ((congrArg (fun f => f 64 15) hRs1).trans (hrn)) (by omega) dX7_growth_23 rfl ?_
    refine z_aload_n (i := 0) dX7_growth_26 rfl rfl rfl ?_
    refine z_getR (q := rn) f_X7_74 i_64 rfl ((congrArg (fun f => f 64 15) hRs1).trans (hrn)) (by omega) dX7_growth_27 rfl ?_
    refine z_getI (x := s1.1 rn 3) rfl f_X7_408 (i_Ru hrb) rfl dX7_growth_30 rfl ?_
    refine z_aload_n (i := 0) dX7_growth_33 rfl rfl rfl ?_
    refine z_getR (q := rn) f_X7_74 i_64 rfl ((congrArg (fun f => f 64 15) hRs1).trans (hrn)) (by omega) dX7_growth_34 rfl ?_
    refine z_getI (x := s1.1 rn 4) rfl f_X7_411 (i_Ru hrb) rfl dX7_growth_37 rfl ?_
    refine z_aload_n (i := 0) dX7_growth_40 rfl rfl rfl ?_
    refine z_getR (q := 91) f_X7_81 i_64 rfl (r_64_17 (zRok_of hRs1 hR)) (by decide) dX7_growth_41 rfl ?_
    refine z_callV k_X3_valueOf m_X7_414 (zRec_of (i_Ru hrb)) rfl h rfl (Nat.le_of_ble_eq_true rfl) dX7_growth_44 zy200 rfl ?_
    rintro v s2 ⟨r3, rfl, hRs2, h⟩
    show zt l g (d + 1) M_X7_growth 47 [.ref 64, .int p0, .int p1, .int p2, .int p3] [.int r3, .int (1 : Int32)] s2 _
    refine z_bipush (v := (99 : Int32)) dX7_growth_47 (by decide) rfl ?_
    refine z_callS (as := [.int (1 : Int32), .int r3, .int (99 : Int32)]) k_X7_within m_X7_401 rfl h rfl (Nat.le_of_ble_eq_true rfl) dX7_growth_49 zy200 rfl ?_
    rintro v s4 ⟨r5, rfl, hRs4, h⟩
    show zt l g (d + 1) M_X7_growth 52 [.ref 64, .int p0, .int p1, .int p2, .int p3] [.int r5] s4 _
    exact z_ret (some (.int r5)) (Or.inr (Or.inl ⟨_, _, rfl, rfl, rfl, dX7_growth_52⟩)) zN200 ⟨_, rfl, h⟩
  · have h := zit h c
    refine z_iload_n (i := 1) dX7_growth_10 rfl rfl rfl ?_
    exact z_ret (some (.int p0)) (Or.inr (Or.inl ⟨_, _, rfl, rfl, rfl, dX7_growth_11⟩)) zN200 ⟨_, rfl, h⟩
theorem dX7_drawTelling_0 : decode cX7_drawTelling 0 = .ok (.aload_n 0, 1) := by decide +kernel
theorem dX7_drawTelling_1 : decode cX7_drawTelling 1 = .ok (.getfield 31, 3) := by decide +kernel
theorem dX7_drawTelling_4 : decode cX7_drawTelling 4 = .ok (.aload_n 0, 1) := by decide +kernel
theorem dX7_drawTelling_5 : decode cX7_drawTelling 5 = .ok (.aload_n 0, 1) := by decide +kernel
theorem dX7_drawTelling_6 : decode cX7_drawTelling 6 = .ok (.getfield 103, 3) := by decide +kernel
theorem dX7_drawTelling_9 : decode cX7_drawTelling 9 = .ok (.invokevirtual 418, 3) := by decide +kernel
theorem dX7_drawTelling_12 : decode cX7_drawTelling 12 = .ok (.aaload, 1) := by decide +kernel
theorem dX7_drawTelling_13 : decode cX7_drawTelling 13 = .ok (.astore_n 1, 1) := by decide +kernel
theorem dX7_drawTelling_14 : decode cX7_drawTelling 14 = .ok (.aload_n 0, 1) := by decide +kernel
theorem dX7_drawTelling_15 : decode cX7_drawTelling 15 = .ok (.aload_n 0, 1) := by decide +kernel
theorem dX7_drawTelling_16 : decode cX7_drawTelling 16 = .ok (.getfield 94, 3) := by decide +kernel
theorem dX7_drawTelling_19 : decode cX7_drawTelling 19 = .ok (.invokevirtual 418, 3) := by decide +kernel
theorem dX7_drawTelling_22 : decode cX7_drawTelling 22 = .ok (.istore_n 2, 1) := by decide +kernel
theorem dX7_drawTelling_23 : decode cX7_drawTelling 23 = .ok (.aload_n 0, 1) := by decide +kernel
theorem dX7_drawTelling_24 : decode cX7_drawTelling 24 = .ok (.sipush 240, 3) := by decide +kernel
theorem dX7_drawTelling_27 : decode cX7_drawTelling 27 = .ok (.invokevirtual 418, 3) := by decide +kernel
theorem dX7_drawTelling_30 : decode cX7_drawTelling 30 = .ok (.istore_n 3, 1) := by decide +kernel
theorem dX7_drawTelling_31 : decode cX7_drawTelling 31 = .ok (.iload_n 3, 1) := by decide +kernel
theorem dX7_drawTelling_32 : decode cX7_drawTelling 32 = .ok (.aload_n 0, 1) := by decide +kernel
theorem dX7_drawTelling_33 : decode cX7_drawTelling 33 = .ok (.bipush 10, 2) := by decide +kernel
theorem dX7_drawTelling_35 : decode cX7_drawTelling 35 = .ok (.invokevirtual 418, 3) := by decide +kernel
theorem dX7_drawTelling_38 : decode cX7_drawTelling 38 = .ok (.iadd, 1) := by decide +kernel
theorem dX7_drawTelling_39 : decode cX7_drawTelling 39 = .ok (.sipush 239, 3) := by decide +kernel
theorem dX7_drawTelling_42 : decode cX7_drawTelling 42 = .ok (.invokestatic 370, 3) := by decide +kernel
theorem dX7_drawTelling_45 : decode cX7_drawTelling 45 = .ok (.istore 4, 2) := by decide +kernel
theorem dX7_drawTelling_47 : decode cX7_drawTelling 47 = .ok (.aload_n 0, 1) := by decide +kernel
theorem dX7_drawTelling_48 : decode cX7_drawTelling 48 = .ok (.iconst 2, 1) := by decide +kernel
theorem dX7_drawTelling_49 : decode cX7_drawTelling 49 = .ok (.aload_n 0, 1) := by decide +kernel
theorem dX7_drawTelling_50 : decode cX7_drawTelling 50 = .ok (.getfield 41, 3) := by decide +kernel
theorem dX7_drawTelling_53 : decode cX7_drawTelling 53 = .ok (.imul, 1) := by decide +kernel
theorem dX7_drawTelling_54 : decode cX7_drawTelling 54 = .ok (.iconst 1, 1) := by decide +kernel
theorem dX7_drawTelling_55 : decode cX7_drawTelling 55 = .ok (.iadd, 1) := by decide +kernel
theorem dX7_drawTelling_56 : decode cX7_drawTelling 56 = .ok (.invokevirtual 418, 3) := by decide +kernel
theorem dX7_drawTelling_59 : decode cX7_drawTelling 59 = .ok (.aload_n 0, 1) := by decide +kernel
theorem dX7_drawTelling_60 : decode cX7_drawTelling 60 = .ok (.getfield 41, 3) := by decide +kernel
theorem dX7_drawTelling_63 : decode cX7_drawTelling 63 = .ok (.isub, 1) := by decide +kernel
theorem dX7_drawTelling_64 : decode cX7_drawTelling 64 = .ok (.istore 5, 2) := by decide +kernel
theorem dX7_drawTelling_66 : decode cX7_drawTelling 66 = .ok (.aload_n 0, 1) := by decide +kernel
theorem dX7_drawTelling_67 : decode cX7_drawTelling 67 = .ok (.iconst 2, 1) := by decide +kernel
theorem dX7_drawTelling_68 : decode cX7_drawTelling 68 = .ok (.aload_n 0, 1) := by decide +kernel
theorem dX7_drawTelling_69 : decode cX7_drawTelling 69 = .ok (.getfield 45, 3) := by decide +kernel
theorem dX7_drawTelling_72 : decode cX7_drawTelling 72 = .ok (.imul, 1) := by decide +kernel
theorem dX7_drawTelling_73 : decode cX7_drawTelling 73 = .ok (.iconst 1, 1) := by decide +kernel
theorem dX7_drawTelling_74 : decode cX7_drawTelling 74 = .ok (.iadd, 1) := by decide +kernel
theorem dX7_drawTelling_75 : decode cX7_drawTelling 75 = .ok (.invokevirtual 418, 3) := by decide +kernel
theorem dX7_drawTelling_78 : decode cX7_drawTelling 78 = .ok (.aload_n 0, 1) := by decide +kernel
theorem dX7_drawTelling_79 : decode cX7_drawTelling 79 = .ok (.getfield 45, 3) := by decide +kernel
theorem dX7_drawTelling_82 : decode cX7_drawTelling 82 = .ok (.isub, 1) := by decide +kernel
theorem dX7_drawTelling_83 : decode cX7_drawTelling 83 = .ok (.istore 6, 2) := by decide +kernel
theorem dX7_drawTelling_85 : decode cX7_drawTelling 85 = .ok (.aload_n 0, 1) := by decide +kernel
theorem dX7_drawTelling_86 : decode cX7_drawTelling 86 = .ok (.bipush 9, 2) := by decide +kernel
theorem dX7_drawTelling_88 : decode cX7_drawTelling 88 = .ok (.invokevirtual 418, 3) := by decide +kernel
theorem dX7_drawTelling_91 : decode cX7_drawTelling 91 = .ok (.iconst 1, 1) := by decide +kernel
theorem dX7_drawTelling_92 : decode cX7_drawTelling 92 = .ok (.iadd, 1) := by decide +kernel
theorem dX7_drawTelling_93 : decode cX7_drawTelling 93 = .ok (.istore 7, 2) := by decide +kernel
theorem dX7_drawTelling_95 : decode cX7_drawTelling 95 = .ok (.aload_n 0, 1) := by decide +kernel
theorem dX7_drawTelling_96 : decode cX7_drawTelling 96 = .ok (.iconst 2, 1) := by decide +kernel
theorem dX7_drawTelling_97 : decode cX7_drawTelling 97 = .ok (.invokevirtual 418, 3) := by decide +kernel
theorem dX7_drawTelling_100 : decode cX7_drawTelling 100 = .ok (.istore 8, 2) := by decide +kernel
theorem dX7_drawTelling_102 : decode cX7_drawTelling 102 = .ok (.aload_n 0, 1) := by decide +kernel
theorem dX7_drawTelling_103 : decode cX7_drawTelling 103 = .ok (.getfield 21, 3) := by decide +kernel
theorem dX7_drawTelling_106 : decode cX7_drawTelling 106 = .ok (.aload_n 1, 1) := by decide +kernel
theorem dX7_drawTelling_107 : decode cX7_drawTelling 107 = .ok (.aload_n 0, 1) := by decide +kernel
theorem dX7_drawTelling_108 : decode cX7_drawTelling 108 = .ok (.getfield 25, 3) := by decide +kernel
theorem dX7_drawTelling_111 : decode cX7_drawTelling 111 = .ok (.iload_n 2, 1) := by decide +kernel
theorem dX7_drawTelling_112 : decode cX7_drawTelling 112 = .ok (.iaload, 1) := by decide +kernel
theorem dX7_drawTelling_113 : decode cX7_drawTelling 113 = .ok (.iload_n 3, 1) := by decide +kernel
theorem dX7_drawTelling_114 : decode cX7_drawTelling 114 = .ok (.invokevirtual 275, 3) := by decide +kernel
theorem dX7_drawTelling_117 : decode cX7_drawTelling 117 = .ok (.ifCond .ne 5, 3) := by decide +kernel
theorem dX7_drawTelling_120 : decode cX7_drawTelling 120 = .ok (.iconst 0, 1) := by decide +kernel
theorem dX7_drawTelling_121 : decode cX7_drawTelling 121 = .ok (.ireturn, 1) := by decide +kernel
theorem dX7_drawTelling_122 : decode cX7_drawTelling 122 = .ok (.aload_n 0, 1) := by decide +kernel
theorem dX7_drawTelling_123 : decode cX7_drawTelling 123 = .ok (.iload 5, 2) := by decide +kernel
theorem dX7_drawTelling_125 : decode cX7_drawTelling 125 = .ok (.iload 6, 2) := by decide +kernel
theorem dX7_drawTelling_127 : decode cX7_drawTelling 127 = .ok (.invokevirtual 421, 3) := by decide +kernel
theorem dX7_drawTelling_130 : decode cX7_drawTelling 130 = .ok (.istore 9, 2) := by decide +kernel
theorem dX7_drawTelling_132 : decode cX7_drawTelling 132 = .ok (.aload_n 0, 1) := by decide +kernel
theorem dX7_drawTelling_133 : decode cX7_drawTelling 133 = .ok (.getfield 21, 3) := by decide +kernel
theorem dX7_drawTelling_136 : decode cX7_drawTelling 136 = .ok (.aload_n 1, 1) := by decide +kernel
theorem dX7_drawTelling_137 : decode cX7_drawTelling 137 = .ok (.aload_n 0, 1) := by decide +kernel
theorem dX7_drawTelling_138 : decode cX7_drawTelling 138 = .ok (.getfield 25, 3) := by decide +kernel
theorem dX7_drawTelling_141 : decode cX7_drawTelling 141 = .ok (.iload_n 2, 1) := by decide +kernel
theorem dX7_drawTelling_142 : decode cX7_drawTelling 142 = .ok (.iaload, 1) := by decide +kernel
theorem dX7_drawTelling_143 : decode cX7_drawTelling 143 = .ok (.iload 4, 2) := by decide +kernel
theorem dX7_drawTelling_145 : decode cX7_drawTelling 145 = .ok (.invokevirtual 275, 3) := by decide +kernel
theorem dX7_drawTelling_148 : decode cX7_drawTelling 148 = .ok (.ifCond .ne 5, 3) := by decide +kernel
theorem dX7_drawTelling_151 : decode cX7_drawTelling 151 = .ok (.iconst 0, 1) := by decide +kernel
theorem dX7_drawTelling_152 : decode cX7_drawTelling 152 = .ok (.ireturn, 1) := by decide +kernel
theorem dX7_drawTelling_153 : decode cX7_drawTelling 153 = .ok (.aload_n 0, 1) := by decide +kernel
theorem dX7_drawTelling_154 : decode cX7_drawTelling 154 = .ok (.iload 5, 2) := by decide +kernel
theorem dX7_drawTelling_156 : decode cX7_drawTelling 156 = .ok (.iload 6, 2) := by decide +kernel
theorem dX7_drawTelling_158 : decode cX7_drawTelling 158 = .ok (.invokevirtual 421, 3) := by decide +kernel
theorem dX7_drawTelling_161 : decode cX7_drawTelling 161 = .ok (.istore 10, 2) := by decide +kernel
theorem dX7_drawTelling_163 : decode cX7_drawTelling 163 = .ok (.aload_n 0, 1) := by decide +kernel
theorem dX7_drawTelling_164 : decode cX7_drawTelling 164 = .ok (.iload_n 2, 1) := by decide +kernel
theorem dX7_drawTelling_165 : decode cX7_drawTelling 165 = .ok (.iload_n 3, 1) := by decide +kernel
theorem dX7_drawTelling_166 : decode cX7_drawTelling 166 = .ok (.sipush 1000, 3) := by decide +kernel
theorem dX7_drawTelling_169 : decode cX7_drawTelling 169 = .ok (.imul, 1) := by decide +kernel
theorem dX7_drawTelling_170 : decode cX7_drawTelling 170 = .ok (.iload 4, 2) := by decide +kernel
theorem dX7_drawTelling_172 : decode cX7_drawTelling 172 = .ok (.iadd, 1) := by decide +kernel
theorem dX7_drawTelling_173 : decode cX7_drawTelling 173 = .ok (.iload 9, 2) := by decide +kernel
theorem dX7_drawTelling_175 : decode cX7_drawTelling 175 = .ok (.iload 10, 2) := by decide +kernel
theorem dX7_drawTelling_177 : decode cX7_drawTelling 177 = .ok (.iload 8, 2) := by decide +kernel
theorem dX7_drawTelling_179 : decode cX7_drawTelling 179 = .ok (.bipush 10, 2) := by decide +kernel
theorem dX7_drawTelling_181 : decode cX7_drawTelling 181 = .ok (.imul, 1) := by decide +kernel
theorem dX7_drawTelling_182 : decode cX7_drawTelling 182 = .ok (.iload 7, 2) := by decide +kernel
theorem dX7_drawTelling_184 : decode cX7_drawTelling 184 = .ok (.iadd, 1) := by decide +kernel
theorem dX7_drawTelling_185 : decode cX7_drawTelling 185 = .ok (.invokevirtual 424, 3) := by decide +kernel
theorem dX7_drawTelling_188 : decode cX7_drawTelling 188 = .ok (.iconst (-1), 1) := by decide +kernel
theorem dX7_drawTelling_189 : decode cX7_drawTelling 189 = .ok (.if_icmp .eq 7, 3) := by decide +kernel
theorem dX7_drawTelling_192 : decode cX7_drawTelling 192 = .ok (.iconst 1, 1) := by decide +kernel
theorem dX7_drawTelling_193 : decode cX7_drawTelling 193 = .ok (.goto 4, 3) := by decide +kernel
theorem dX7_drawTelling_196 : decode cX7_drawTelling 196 = .ok (.iconst 0, 1) := by decide +kernel
theorem dX7_drawTelling_197 : decode cX7_drawTelling 197 = .ok (.ireturn, 1) := by decide +kernel
set_option maxHeartbeats 4000000 in
set_option maxRecDepth 100000 in
theorem t_X7_drawTelling {l : Launch} {g : zG} {d : Nat} {s : zS} (hR : zRok s)  {K : Bool → zS → Prop} (h : (zc l g d M_X7_lotBelow [.ref 64, .int (s.1 64 5)] s (zKi (fun r2 s1 => s1.2.2.1 = s.2.2.1 ∧ (vp_in r2 12 ∧ (zc l g d M_X7_lotBelow [.ref 64, .int (s1.1 64 3)] s1 (zKi (fun r5 s4 => s4.2.2.1 = s1.2.2.1 ∧ (zc l g d M_X7_lotBelow [.ref 64, .int (240 : Int32)] s4 (zKi (fun r7 s6 => s6.2.2.1 = s4.2.2.1 ∧ (zc l g d M_X7_lotBelow [.ref 64, .int (10 : Int32)] s6 (zKi (fun r9 s8 => s8.2.2.1 = s6.2.2.1 ∧ (∀ v10 : Int32, v10 = zmin (r7 + r9) (239 : Int32) → (zc l g d M_X7_lotBelow [.ref 64, .int (((2 : Int32) * (s8.1 64 8)) + (1 : Int32))] s8 (zKi (fun r12 s11 => s11.2.2.1 = s8.2.2.1 ∧ (zc l g d M_X7_lotBelow [.ref 64, .int (((2 : Int32) * (s11.1 64 9)) + (1 : Int32))] s11 (zKi (fun r14 s13 => s13.2.2.1 = s11.2.2.1 ∧ (zc l g d M_X7_lotBelow [.ref 64, .int (9 : Int32)] s13 (zKi (fun r16 s15 => s15.2.2.1 = s13.2.2.1 ∧ (zc l g d M_X7_lotBelow [.ref 64, .int (2 : Int32)] s15 (zKi (fun r18 s17 => s17.2.2.1 = s15.2.2.1 ∧ (vp_in r5 20 ∧ (zc l g d M_X4_shows [.ref 68, .ref (92 + r2.toNatClampNeg), .int (s17.1 69 r5.toNatClampNeg), .int r7] s17 (zKz (fun b21 s20 => s20.2.2.1 = s17.2.2.1 ∧ (if b21 = true then (zc l g d M_X7_sightedOff [.ref 64, .int (r12 - (s11.1 64 8)), .int (r14 - (s13.1 64 9))] s20 (zKi (fun r23 s22 => s22.2.2.1 = s20.2.2.1 ∧ (vp_in r5 20 ∧ (zc l g d M_X4_shows [.ref 68, .ref (92 + r2.toNatClampNeg), .int (s22.1 69 r5.toNatClampNeg), .int v10] s22 (zKz (fun b26 s25 => s25.2.2.1 = s22.2.2.1 ∧ (if b26 = true then (zc l g d M_X7_sightedOff [.ref 64, .int (r12 - (s11.1 64 8)), .int (r14 - (s13.1 64 9))] s25 (zKi (fun r28 s27 => s27.2.2.1 = s25.2.2.1 ∧ (zc l g d M_X7_tell [.ref 64, .int r5, .int ((r7 * (1000 : Int32)) + v10), .int r23, .int r28, .int ((r18 * (10 : Int32)) + (r16 + (1 : Int32)))] s27 (zKi (fun r30 s29 => s29.2.2.1 = s27.2.2.1 ∧ (if r30 = (-1 : Int32) then K false s29 else K true s29))))))) else K false s25)))))))) else K false s20)))))))))))))))))))))))))))))))) : zc l g (d + 1) M_X7_drawTelling [.ref 64] s (zKz K) := by
  refine zCall_of k_X7_drawTelling (Nat.le_of_ble_eq_true rfl) (Nat.le_refl _) (fun _ => ?_)
  show zt l g (d + 1) M_X7_drawTelling 0 [.ref 64, zJ, zJ, zJ, zJ, zJ, zJ, zJ, zJ, zJ, zJ] [] s (zKz K)
  refine z_aload_n (i := 0) dX7_drawTelling_0 rfl rfl rfl ?_
  refine z_getR (q := 70) f_X7_31 i_64 rfl (r_64_4 hR) (by decide) dX7_drawTelling_1 rfl ?_
  refine z_aload_n (i := 0) dX7_drawTelling_4 rfl rfl rfl ?_
  refine z_aload_n (i := 0) dX7_drawTelling_5 rfl rfl rfl ?_
  refine z_getI (x := s.1 64 5) rfl f_X7_103 i_64 rfl dX7_drawTelling_6 rfl ?_
  refine z_callV k_X7_lotBelow m_X7_418 (zRec_of i_64) rfl h rfl (Nat.le_of_ble_eq_true rfl) dX7_drawTelling_9 zy200 rfl ?_
  rintro v s1 ⟨r2, rfl, hRs1, h⟩
  show zt l g (d + 1) M_X7_drawTelling 12 [.ref 64, zJ, zJ, zJ, zJ, zJ, zJ, zJ, zJ, zJ, zJ] [.int r2, .ref 70] s1 _
  obtain ⟨a3, h⟩ := h
  have wa3 := vin a3
  refine z_aald (q := 92 + r2.toNatClampNeg) (by decide) a_70 a3 (r_70 (zRok_of hRs1 hR) a3) (by omega) dX7_drawTelling_12 rfl ?_
  refine z_astore_n (i := 1) dX7_drawTelling_13 rfl (by decide) (zokd rfl) rfl ?_
  show zt l g (d + 1) M_X7_drawTelling 14 [.ref 64, .ref (92 + r2.toNatClampNeg), zJ, zJ, zJ, zJ, zJ, zJ, zJ, zJ, zJ] [] s1 _
  refine z_aload_n (i := 0) dX7_drawTelling_14 rfl rfl rfl ?_
  refine z_aload_n (i := 0) dX7_drawTelling_15 rfl rfl rfl ?_
  refine z_getI (x := s1.1 64 3) rfl f_X7_94 i_64 rfl dX7_drawTelling_16 rfl ?_
  refine z_callV k_X7_lotBelow m_X7_418 (zRec_of i_64) rfl h rfl (Nat.le_of_ble_eq_true rfl) dX7_drawTelling_19 zy200 rfl ?_
  rintro v s4 ⟨r5, rfl, hRs4, h⟩
  show zt l g (d + 1) M_X7_drawTelling 22 [.ref 64, .ref (92 + r2.toNatClampNeg), zJ, zJ, zJ, zJ, zJ, zJ, zJ, zJ, zJ] [.int r5] s4 _
  refine z_istore_n (i := 2) dX7_drawTelling_22 rfl (by decide) (zokd rfl) rfl ?_
  show zt l g (d + 1) M_X7_drawTelling 23 [.ref 64, .ref (92 + r2.toNatClampNeg), .int r5, zJ, zJ, zJ, zJ, zJ, zJ, zJ, zJ] [] s4 _
  refine z_aload_n (i := 0) dX7_drawTelling_23 rfl rfl rfl ?_
  refine z_sipush (v := (240 : Int32)) dX7_drawTelling_24 (by decide) rfl ?_
  refine z_callV k_X7_lotBelow m_X7_418 (zRec_of i_64) rfl h rfl (Nat.le_of_ble_eq_true rfl) dX7_drawTelling_27 zy200 rfl ?_
  rintro v s6 ⟨r7, rfl, hRs6, h⟩
  show zt l g (d + 1) M_X7_drawTelling 30 [.ref 64, .ref (92 + r2.toNatClampNeg), .int r5, zJ, zJ, zJ, zJ, zJ, zJ, zJ, zJ] [.int r7] s6 _
  refine z_istore_n (i := 3) dX7_drawTelling_30 rfl (by decide) (zokd rfl) rfl ?_
  show zt l g (d + 1) M_X7_drawTelling 31 [.ref 64, .ref (92 + r2.toNatClampNeg), .int r5, .int r7, zJ, zJ, zJ, zJ, zJ, zJ, zJ] [] s6 _
  refine z_iload_n (i := 3) dX7_drawTelling_31 rfl rfl rfl ?_
  refine z_aload_n (i := 0) dX7_drawTelling_32 rfl rfl rfl ?_
  refine z_bipush (v := (10 : Int32)) dX7_drawTelling_33 (by decide) rfl ?_
  refine z_callV k_X7_lotBelow m_X7_418 (zRec_of i_64) rfl h rfl (Nat.le_of_ble_eq_true rfl) dX7_drawTelling_35 zy200 rfl ?_
  rintro v s8 ⟨r9, rfl, hRs8, h⟩
  show zt l g (d + 1) M_X7_drawTelling 38 [.ref 64, .ref (92 + r2.toNatClampNeg), .int r5, .int r7, zJ, zJ, zJ, zJ, zJ, zJ, zJ] [.int r9, .int r7] s8 _
  refine z_iadd dX7_drawTelling_38 rfl ?_
  refine z_sipush (v := (239 : Int32)) dX7_drawTelling_39 (by decide) rfl ?_
  refine z_mmin m_X7_370 dX7_drawTelling_42 (Nat.le_of_ble_eq_true rfl) rfl ?_
  refine z_istore dX7_drawTelling_45 (by decide) (zokd rfl) rfl ?_
  obtain ⟨v10, ev10⟩ : ∃ x : Int32, x = zmin (r7 + r9) (239 : Int32) := ⟨_, rfl⟩
  rw [← ev10]
  have h := h v10 ev10
  show zt l g (d + 1) M_X7_drawTelling 47 [.ref 64, .ref (92 + r2.toNatClampNeg), .int r5, .int r7, .int v10, zJ, zJ, zJ, zJ, zJ, zJ] [] s8 _
  refine z_aload_n (i := 0) dX7_drawTelling_47 rfl rfl rfl ?_
  refine z_iconst (v := (2 : Int32)) dX7_drawTelling_48 (by decide) rfl ?_
  refine z_aload_n (i := 0) dX7_drawTelling_49 rfl rfl rfl ?_
  refine z_getI (x := s8.1 64 8) rfl f_X7_41 i_64 rfl dX7_drawTelling_50 rfl ?_
  refine z_imul dX7_drawTelling_53 rfl ?_
  refine z_iconst (v := (1 : Int32)) dX7_drawTelling_54 (by decide) rfl ?_
  refine z_iadd dX7_drawTelling_55 rfl ?_
  refine z_callV k_X7_lotBelow m_X7_418 (zRec_of i_64) rfl h rfl (Nat.le_of_ble_eq_true rfl) dX7_drawTelling_56 zy200 rfl ?_
  rintro v s11 ⟨r12, rfl, hRs11, h⟩
  show zt l g (d + 1) M_X7_drawTelling 59 [.ref 64, .ref (92 + r2.toNatClampNeg), .int r5, .int r7, .int v10, zJ, zJ, zJ, zJ, zJ, zJ] [.int r12] s11 _
  refine z_aload_n (i := 0) dX7_drawTelling_59 rfl rfl rfl ?_
  refine z_getI (x := s11.1 64 8) rfl f_X7_41 i_64 rfl dX7_drawTelling_60 rfl ?_
  refine z_isub dX7_drawTelling_63 rfl ?_
  refine z_istore dX7_drawTelling_64 (by decide) (zokd rfl) rfl ?_
  show zt l g (d + 1) M_X7_drawTelling 66 [.ref 64, .ref (92 + r2.toNatClampNeg), .int r5, .int r7, .int v10, .int (r12 - (s11.1 64 8)), zJ, zJ, zJ, zJ, zJ] [] s11 _
  refine z_aload_n (i := 0) dX7_drawTelling_66 rfl rfl rfl ?_
  refine z_iconst (v := (2 : Int32)) dX7_drawTelling_67 (by decide) rfl ?_
  refine z_aload_n (i := 0) dX7_drawTelling_68 rfl rfl rfl ?_
  refine z_getI (x := s11.1 64 9) rfl f_X7_45 i_64 rfl dX7_drawTelling_69 rfl ?_
  refine z_imul dX7_drawTelling_72 rfl ?_
  refine z_iconst (v := (1 : Int32)) dX7_drawTelling_73 (by decide) rfl ?_
  refine z_iadd dX7_drawTelling_74 rfl ?_
  refine z_callV k_X7_lotBelow m_X7_418 (zRec_of i_64) rfl h rfl (Nat.le_of_ble_eq_true rfl) dX7_drawTelling_75 zy200 rfl ?_
  rintro v s13 ⟨r14, rfl, hRs13, h⟩
  show zt l g (d + 1) M_X7_drawTelling 78 [.ref 64, .ref (92 + r2.toNatClampNeg), .int r5, .int r7, .int v10, .int (r12 - (s11.1 64 8)), zJ, zJ, zJ, zJ, zJ] [.int r14] s13 _
  refine z_aload_n (i := 0) dX7_drawTelling_78 rfl rfl rfl ?_
  refine z_getI (x := s13.1 64 9) rfl f_X7_45 i_64 rfl dX7_drawTelling_79 rfl ?_
  refine z_isub dX7_drawTelling_82 rfl ?_
  refine z_istore dX7_drawTelling_83 (by decide) (zokd rfl) rfl ?_
  show zt l g (d + 1) M_X7_drawTelling 85 [.ref 64, .ref (92 + r2.toNatClampNeg), .int r5, .int r7, .int v10, .int (r12 - (s11.1 64 8)), .int (r14 - (s13.1 64 9)), zJ, zJ, zJ, zJ] [] s13 _
  refine z_aload_n (i := 0) dX7_drawTelling_85 rfl rfl rfl ?_
  refine z_bipush (v := (9 : Int32)) dX7_drawTelling_86 (by decide) rfl ?_
  refine z_callV k_X7_lotBelow m_X7_418 (zRec_of i_64) rfl h rfl (Nat.le_of_ble_eq_true rfl) dX7_drawTelling_88 zy200 rfl ?_
  rintro v s15 ⟨r16, rfl, hRs15, h⟩
  show zt l g (d + 1) M_X7_drawTelling 91 [.ref 64, .ref (92 + r2.toNatClampNeg), .int r5, .int r7, .int v10, .int (r12 - (s11.1 64 8)), .int (r14 - (s13.1 64 9)), zJ, zJ, zJ, zJ] [.int r16] s15 _
  refine z_iconst (v := (1 : Int32)) dX7_drawTelling_91 (by decide) rfl ?_
  refine z_iadd dX7_drawTelling_92 rfl ?_
  refine z_istore dX7_drawTelling_93 (by decide) (zokd rfl) rfl ?_
  show zt l g (d + 1) M_X7_drawTelling 95 [.ref 64, .ref (92 + r2.toNatClampNeg), .int r5, .int r7, .int v10, .int (r12 - (s11.1 64 8)), .int (r14 - (s13.1 64 9)), .int (r16 + (1 : Int32)), zJ, zJ, zJ] [] s15 _
  refine z_aload_n (i := 0) dX7_drawTelling_95 rfl rfl rfl ?_
  refine z_iconst (v := (2 : Int32)) dX7_drawTelling_96 (by decide) rfl ?_
  refine z_callV k_X7_lotBelow m_X7_418 (zRec_of i_64) rfl h rfl (Nat.le_of_ble_eq_true rfl) dX7_drawTelling_97 zy200 rfl ?_
  rintro v s17 ⟨r18, rfl, hRs17, h⟩
  show zt l g (d + 1) M_X7_drawTelling 100 [.ref 64, .ref (92 + r2.toNatClampNeg), .int r5, .int r7, .int v10, .int (r12 - (s11.1 64 8)), .int (r14 - (s13.1 64 9)), .int (r16 + (1 : Int32)), zJ, zJ, zJ] [.int r18] s17 _
  refine z_istore dX7_drawTelling_100 (by decide) (zokd rfl) rfl ?_
  show zt l g (d + 1) M_X7_drawTelling 102 [.ref 64, .ref (92 + r2.toNatClampNeg), .int r5, .int r7, .int v10, .int (r12 - (s11.1 64 8)), .int (r14 - (s13.1 64 9)), .int (r16 + (1 : Int32)), .int r18, zJ, zJ] [] s17 _
  refine z_aload_n (i := 0) dX7_drawTelling_102 rfl rfl rfl ?_
  refine z_getR (q := 68) f_X7_21 i_64 rfl (r_64_1 (zRok_of hRs17 (zRok_of hRs15 (zRok_of hRs13 (zRok_of hRs11 (zRok_of hRs8 (zRok_of hRs6 (zRok_of hRs4 (zRok_of hRs1 hR))))))))) (by decide) dX7_drawTelling_103 rfl ?_
  refine z_aload_n (i := 1) dX7_drawTelling_106 rfl rfl rfl ?_
  refine z_aload_n (i := 0) dX7_drawTelling_107 rfl rfl rfl ?_
  refine z_getR (q := 69) f_X7_25 i_64 rfl (r_64_2 (zRok_of hRs17 (zRok_of hRs15 (zRok_of hRs13 (zRok_of hRs11 (zRok_of hRs8 (zRok_of hRs6 (zRok_of hRs4 (zRok_of hRs1 hR))))))))) (by decide) dX7_drawTelling_108 rfl ?_
  refine z_iload_n (i := 2) dX7_drawTelling_111 rfl rfl rfl ?_
  obtain ⟨a19, h⟩ := h
  have wa19 := vin a19
  refine z_iald (x := s17.1 69 r5.toNatClampNeg) rfl a_69 a19 dX7_drawTelling_112 rfl ?_
  refine z_iload_n (i := 3) dX7_drawTelling_113 rfl rfl rfl ?_
  refine z_callV k_X4_shows m_X7_275 (zRec_of i_68) rfl h rfl (Nat.le_of_ble_eq_true rfl) dX7_drawTelling_114 zy200 rfl ?_
  rintro v s20 ⟨b21, rfl, hRs20, h⟩
  show zt l g (d + 1) M_X7_drawTelling 117 [.ref 64, .ref (92 + r2.toNatClampNeg), .int r5, .int r7, .int v10, .int (r12 - (s11.1 64 8)), .int (r14 - (s13.1 64 9)), .int (r16 + (1 : Int32)), .int r18, zJ, zJ] [.int (zb b21)] s20 _
  refine z_ifb_ne (pt := 122) dX7_drawTelling_117 (by decide) rfl (fun c => ?_) (fun c => ?_)
  · have h := zit h c
    refine z_aload_n (i := 0) dX7_drawTelling_122 rfl rfl rfl ?_
    refine z_iload dX7_drawTelling_123 rfl rfl ?_
    refine z_iload dX7_drawTelling_125 rfl rfl ?_
    refine z_callV k_X7_sightedOff m_X7_421 (zRec_of i_64) rfl h rfl (Nat.le_of_ble_eq_true rfl) dX7_drawTelling_127 zy200 rfl ?_
    rintro v s22 ⟨r23, rfl, hRs22, h⟩
    show zt l g (d + 1) M_X7_drawTelling 130 [.ref 64, .ref (92 + r2.toNatClampNeg), .int r5, .int r7, .int v10, .int (r12 - (s11.1 64 8)), .int (r14 - (s13.1 64 9)), .int (r16 + (1 : Int32)), .int r18, zJ, zJ] [.int r23] s22 _
    refine z_istore dX7_drawTelling_130 (by decide) (zokd rfl) rfl ?_
    show zt l g (d + 1) M_X7_drawTelling 132 [.ref 64, .ref (92 + r2.toNatClampNeg), .int r5, .int r7, .int v10, .int (r12 - (s11.1 64 8)), .int (r14 - (s13.1 64 9)), .int (r16 + (1 : Int32)), .int r18, .int r23, zJ] [] s22 _
    refine z_aload_n (i := 0) dX7_drawTelling_132 rfl rfl rfl ?_
    refine z_getR (q := 68) f_X7_21 i_64 rfl (r_64_1 (zRok_of hRs22 (zRok_of hRs20 (zRok_of hRs17 (zRok_of hRs15 (zRok_of hRs13 (zRok_of hRs11 (zRok_of hRs8 (zRok_of hRs6 (zRok_of hRs4 (zRok_of hRs1 hR))))))))))) (by decide) dX7_drawTelling_133 rfl ?_
    refine z_aload_n (i := 1) dX7_drawTelling_136 rfl rfl rfl ?_
    refine z_aload_n (i := 0) dX7_drawTelling_137 rfl rfl rfl ?_
    refine z_getR (q := 69) f_X7_25 i_64 rfl (r_64_2 (zRok_of hRs22 (zRok_of hRs20 (zRok_of hRs17 (zRok_of hRs15 (zRok_of hRs13 (zRok_of hRs11 (zRok_of hRs8 (zRok_of hRs6 (zRok_of hRs4 (zRok_of hRs1 hR))))))))))) (by decide) dX7_drawTelling_138 rfl ?_
    refine z_iload_n (i := 2) dX7_drawTelling_141 rfl rfl rfl ?_
    obtain ⟨a24, h⟩ := h
    have wa24 := vin a24
    refine z_iald (x := s22.1 69 r5.toNatClampNeg) rfl a_69 a24 dX7_drawTelling_142 rfl ?_
    refine z_iload dX7_drawTelling_143 rfl rfl ?_
    refine z_callV k_X4_shows m_X7_275 (zRec_of i_68) rfl h rfl (Nat.le_of_ble_eq_true rfl) dX7_drawTelling_145 zy200 rfl ?_
    rintro v s25 ⟨b26, rfl, hRs25, h⟩
    show zt l g (d + 1) M_X7_drawTelling 148 [.ref 64, .ref (92 + r2.toNatClampNeg), .int r5, .int r7, .int v10, .int (r12 - (s11.1 64 8)), .int (r14 - (s13.1 64 9)), .int (r16 + (1 : Int32)), .int r18, .int r23, zJ] [.int (zb b26)] s25 _
    refine z_ifb_ne (pt := 153) dX7_drawTelling_148 (by decide) rfl (fun c => ?_) (fun c => ?_)
    · have h := zit h c
      refine z_aload_n (i := 0) dX7_drawTelling_153 rfl rfl rfl ?_
      refine z_iload dX7_drawTelling_154 rfl rfl ?_
      refine z_iload dX7_drawTelling_156 rfl rfl ?_
      refine z_callV k_X7_sightedOff m_X7_421 (zRec_of i_64) rfl h rfl (Nat.le_of_ble_eq_true rfl) dX7_drawTelling_158 zy200 rfl ?_
      rintro v s27 ⟨r28, rfl, hRs27, h⟩
      show zt l g (d + 1) M_X7_drawTelling 161 [.ref 64, .ref (92 + r2.toNatClampNeg), .int r5, .int r7, .int v10, .int (r12 - (s11.1 64 8)), .int (r14 - (s13.1 64 9)), .int (r16 + (1 : Int32)), .int r18, .int r23, zJ] [.int r28] s27 _
      refine z_istore dX7_drawTelling_161 (by decide) (zokd rfl) rfl ?_
      show zt l g (d + 1) M_X7_drawTelling 163 [.ref 64, .ref (92 + r2.toNatClampNeg), .int r5, .int r7, .int v10, .int (r12 - (s11.1 64 8)), .int (r14 - (s13.1 64 9)), .int (r16 + (1 : Int32)), .int r18, .int r23, .int r28] [] s27 _
      refine z_aload_n (i := 0) dX7_drawTelling_163 rfl rfl rfl ?_
      refine z_iload_n (i := 2) dX7_drawTelling_164 rfl rfl rfl ?_
      refine z_iload_n (i := 3) dX7_drawTelling_165 rfl rfl rfl ?_
      refine z_sipush (v := (1000 : Int32)) dX7_drawTelling_166 (by decide) rfl ?_
      refine z_imul dX7_drawTelling_169 rfl ?_
      refine z_iload dX7_drawTelling_170 rfl rfl ?_
      refine z_iadd dX7_drawTelling_172 rfl ?_
      refine z_iload dX7_drawTelling_173 rfl rfl ?_
      refine z_iload dX7_drawTelling_175 rfl rfl ?_
      refine z_iload dX7_drawTelling_177 rfl rfl ?_
      refine z_bipush (v := (10 : Int32)) dX7_drawTelling_179 (by decide) rfl ?_
      refine z_imul dX7_drawTelling_181 rfl ?_
      refine z_iload dX7_drawTelling_182 rfl rfl ?_
      refine z_iadd dX7_drawTelling_184 rfl ?_
      refine z_callV k_X7_tell m_X7_424 (zRec_of i_64) rfl h rfl (Nat.le_of_ble_eq_true rfl) dX7_drawTelling_185 zy200 rfl ?_
      rintro v s29 ⟨r30, rfl, hRs29, h⟩
      show zt l g (d + 1) M_X7_drawTelling 188 [.ref 64, .ref (92 + r2.toNatClampNeg), .int r5, .int r7, .int v10, .int (r12 - (s11.1 64 8)), .int (r14 - (s13.1 64 9)), .int (r16 + (1 : Int32)), .int r18, .int r23, .int r28] [.int r30] s29 _
      refine z_iconst (v := (-1 : Int32)) dX7_drawTelling_188 (by decide) rfl ?_
      refine z_icmp_eq (pt := 196) dX7_drawTelling_189 (by decide) rfl (fun c => ?_) (fun c => ?_)
      · have h := zit h c
        refine z_iconst (v := (0 : Int32)) dX7_drawTelling_196 (by decide) rfl ?_
        exact z_ret (some (.int (zb false))) (Or.inr (Or.inl ⟨_, _, rfl, rfl, zb_nar _, dX7_drawTelling_197⟩)) zN200 ⟨_, rfl, h⟩
      · have h := zif h c
        refine z_iconst (v := (1 : Int32)) dX7_drawTelling_192 (by decide) rfl ?_
        refine z_goto (pn := 197) dX7_drawTelling_193 (by decide) ?_
        exact z_ret (some (.int (zb true))) (Or.inr (Or.inl ⟨_, _, rfl, rfl, zb_nar _, dX7_drawTelling_197⟩)) zN200 ⟨_, rfl, h⟩
    · have h := zif h (by rw [c]; exact Bool.false_ne_true)
      refine z_iconst (v := (0 : Int32)) dX7_drawTelling_151 (by decide) rfl ?_
      exact z_ret (some (.int (zb false))) (Or.inr (Or.inl ⟨_, _, rfl, rfl, zb_nar _, dX7_drawTelling_152⟩)) zN200 ⟨_, rfl, h⟩
  · have h := zif h (by rw [c]; exact Bool.false_ne_true)
    refine z_iconst (v := (0 : Int32)) dX7_drawTelling_120 (by decide) rfl ?_
    exact z_ret (some (.int (zb false))) (Or.inr (Or.inl ⟨_, _, rfl, rfl, zb_nar _, dX7_drawTelling_121⟩)) zN200 ⟨_, rfl, h⟩
theorem dX7_sightedOff_0 : decode cX7_sightedOff 0 = .ok (.aload_n 0, 1) := by decide +kernel
theorem dX7_sightedOff_1 : decode cX7_sightedOff 1 = .ok (.getfield 21, 3) := by decide +kernel
theorem dX7_sightedOff_4 : decode cX7_sightedOff 4 = .ok (.getfield 192, 3) := by decide +kernel
theorem dX7_sightedOff_7 : decode cX7_sightedOff 7 = .ok (.iload_n 1, 1) := by decide +kernel
theorem dX7_sightedOff_8 : decode cX7_sightedOff 8 = .ok (.iadd, 1) := by decide +kernel
theorem dX7_sightedOff_9 : decode cX7_sightedOff 9 = .ok (.sipush 256, 3) := by decide +kernel
theorem dX7_sightedOff_12 : decode cX7_sightedOff 12 = .ok (.invokestatic 428, 3) := by decide +kernel
theorem dX7_sightedOff_15 : decode cX7_sightedOff 15 = .ok (.sipush 1000, 3) := by decide +kernel
theorem dX7_sightedOff_18 : decode cX7_sightedOff 18 = .ok (.imul, 1) := by decide +kernel
theorem dX7_sightedOff_19 : decode cX7_sightedOff 19 = .ok (.iconst 0, 1) := by decide +kernel
theorem dX7_sightedOff_20 : decode cX7_sightedOff 20 = .ok (.aload_n 0, 1) := by decide +kernel
theorem dX7_sightedOff_21 : decode cX7_sightedOff 21 = .ok (.getfield 21, 3) := by decide +kernel
theorem dX7_sightedOff_24 : decode cX7_sightedOff 24 = .ok (.getfield 193, 3) := by decide +kernel
theorem dX7_sightedOff_27 : decode cX7_sightedOff 27 = .ok (.iload_n 2, 1) := by decide +kernel
theorem dX7_sightedOff_28 : decode cX7_sightedOff 28 = .ok (.iadd, 1) := by decide +kernel
theorem dX7_sightedOff_29 : decode cX7_sightedOff 29 = .ok (.sipush 999, 3) := by decide +kernel
theorem dX7_sightedOff_32 : decode cX7_sightedOff 32 = .ok (.invokestatic 401, 3) := by decide +kernel
theorem dX7_sightedOff_35 : decode cX7_sightedOff 35 = .ok (.iadd, 1) := by decide +kernel
theorem dX7_sightedOff_36 : decode cX7_sightedOff 36 = .ok (.ireturn, 1) := by decide +kernel
set_option maxHeartbeats 4000000 in
set_option maxRecDepth 100000 in
theorem t_X7_sightedOff {l : Launch} {g : zG} {d : Nat} {s : zS} (hR : zRok s) {p0 : Int32} {p1 : Int32} {K : Int32 → zS → Prop} (h : (zc l g d M_X7_within [.int (0 : Int32), .int ((s.1 68 2) + p1), .int (999 : Int32)] s (zKi (fun r2 s1 => s1.2.2.1 = s.2.2.1 ∧ K (((zfm ((s.1 68 1) + p0) (256 : Int32)) * (1000 : Int32)) + r2) s1)))) : zc l g (d + 1) M_X7_sightedOff [.ref 64, .int p0, .int p1] s (zKi K) := by
  refine zCall_of k_X7_sightedOff (Nat.le_of_ble_eq_true rfl) (Nat.le_refl _) (fun _ => ?_)
  show zt l g (d + 1) M_X7_sightedOff 0 [.ref 64, .int p0, .int p1] [] s (zKi K)
  refine z_aload_n (i := 0) dX7_sightedOff_0 rfl rfl rfl ?_
  refine z_getR (q := 68) f_X7_21 i_64 rfl (r_64_1 hR) (by decide) dX7_sightedOff_1 rfl ?_
  refine z_getI (x := s.1 68 1) rfl f_X7_192 i_68 rfl dX7_sightedOff_4 rfl ?_
  refine z_iload_n (i := 1) dX7_sightedOff_7 rfl rfl rfl ?_
  refine z_iadd dX7_sightedOff_8 rfl ?_
  refine z_sipush (v := (256 : Int32)) dX7_sightedOff_9 (by decide) rfl ?_
  refine z_fmod m_X7_428 (by decide) dX7_sightedOff_12 (Nat.le_of_ble_eq_true rfl) rfl ?_
  refine z_sipush (v := (1000 : Int32)) dX7_sightedOff_15 (by decide) rfl ?_
  refine z_imul dX7_sightedOff_18 rfl ?_
  refine z_iconst (v := (0 : Int32)) dX7_sightedOff_19 (by decide) rfl ?_
  refine z_aload_n (i := 0) dX7_sightedOff_20 rfl rfl rfl ?_
  refine z_getR (q := 68) f_X7_21 i_64 rfl (r_64_1 hR) (by decide) dX7_sightedOff_21 rfl ?_
  refine z_getI (x := s.1 68 2) rfl f_X7_193 i_68 rfl dX7_sightedOff_24 rfl ?_
  refine z_iload_n (i := 2) dX7_sightedOff_27 rfl rfl rfl ?_
  refine z_iadd dX7_sightedOff_28 rfl ?_
  refine z_sipush (v := (999 : Int32)) dX7_sightedOff_29 (by decide) rfl ?_
  refine z_callS (as := [.int (0 : Int32), .int ((s.1 68 2) + p1), .int (999 : Int32)]) k_X7_within m_X7_401 rfl h rfl (Nat.le_of_ble_eq_true rfl) dX7_sightedOff_32 zy200 rfl ?_
  rintro v s1 ⟨r2, rfl, hRs1, h⟩
  show zt l g (d + 1) M_X7_sightedOff 35 [.ref 64, .int p0, .int p1] [.int r2, .int ((zfm ((s.1 68 1) + p0) (256 : Int32)) * (1000 : Int32))] s1 _
  refine z_iadd dX7_sightedOff_35 rfl ?_
  exact z_ret (some (.int (((zfm ((s.1 68 1) + p0) (256 : Int32)) * (1000 : Int32)) + r2))) (Or.inr (Or.inl ⟨_, _, rfl, rfl, rfl, dX7_sightedOff_36⟩)) zN200 ⟨_, rfl, h⟩
theorem dX7_lotBelow_0 : decode cX7_lotBelow 0 = .ok (.aload_n 0, 1) := by decide +kernel
theorem dX7_lotBelow_1 : decode cX7_lotBelow 1 = .ok (.aload_n 0, 1) := by decide +kernel
theorem dX7_lotBelow_2 : decode cX7_lotBelow 2 = .ok (.getfield 338, 3) := by decide +kernel
theorem dX7_lotBelow_5 : decode cX7_lotBelow 5 = .ok (.ldc_w 431, 3) := by decide +kernel
theorem dX7_lotBelow_8 : decode cX7_lotBelow 8 = .ok (.imul, 1) := by decide +kernel
theorem dX7_lotBelow_9 : decode cX7_lotBelow 9 = .ok (.sipush 12345, 3) := by decide +kernel
theorem dX7_lotBelow_12 : decode cX7_lotBelow 12 = .ok (.iadd, 1) := by decide +kernel
theorem dX7_lotBelow_13 : decode cX7_lotBelow 13 = .ok (.ldc_w 432, 3) := by decide +kernel
theorem dX7_lotBelow_16 : decode cX7_lotBelow 16 = .ok (.iand, 1) := by decide +kernel
theorem dX7_lotBelow_17 : decode cX7_lotBelow 17 = .ok (.putfield 338, 3) := by decide +kernel
theorem dX7_lotBelow_20 : decode cX7_lotBelow 20 = .ok (.iload_n 1, 1) := by decide +kernel
theorem dX7_lotBelow_21 : decode cX7_lotBelow 21 = .ok (.iconst 1, 1) := by decide +kernel
theorem dX7_lotBelow_22 : decode cX7_lotBelow 22 = .ok (.if_icmp .ge 7, 3) := by decide +kernel
theorem dX7_lotBelow_25 : decode cX7_lotBelow 25 = .ok (.iconst 0, 1) := by decide +kernel
theorem dX7_lotBelow_26 : decode cX7_lotBelow 26 = .ok (.goto 13, 3) := by decide +kernel
theorem dX7_lotBelow_29 : decode cX7_lotBelow 29 = .ok (.aload_n 0, 1) := by decide +kernel
theorem dX7_lotBelow_30 : decode cX7_lotBelow 30 = .ok (.getfield 338, 3) := by decide +kernel
theorem dX7_lotBelow_33 : decode cX7_lotBelow 33 = .ok (.sipush 256, 3) := by decide +kernel
theorem dX7_lotBelow_36 : decode cX7_lotBelow 36 = .ok (.idiv, 1) := by decide +kernel
theorem dX7_lotBelow_37 : decode cX7_lotBelow 37 = .ok (.iload_n 1, 1) := by decide +kernel
theorem dX7_lotBelow_38 : decode cX7_lotBelow 38 = .ok (.irem, 1) := by decide +kernel
theorem dX7_lotBelow_39 : decode cX7_lotBelow 39 = .ok (.ireturn, 1) := by decide +kernel
set_option maxHeartbeats 4000000 in
set_option maxRecDepth 100000 in
theorem t_X7_lotBelow {l : Launch} {g : zG} {d : Nat} {s : zS} (hR : zRok s) {p0 : Int32} {K : Int32 → zS → Prop} (h : (if (1 : Int32) ≤ p0 then (¬ p0 = 0 ∧ K ((((((s.1 64 18) * (1103515245 : Int32)) + (12345 : Int32)) &&& (2147483647 : Int32)) / (256 : Int32)) % p0) (zI s 64 18 ((((s.1 64 18) * (1103515245 : Int32)) + (12345 : Int32)) &&& (2147483647 : Int32)))) else K (0 : Int32) (zI s 64 18 ((((s.1 64 18) * (1103515245 : Int32)) + (12345 : Int32)) &&& (2147483647 : Int32))))) : zc l g d M_X7_lotBelow [.ref 64, .int p0] s (zKi K) := by
  refine zCall_of k_X7_lotBelow (Nat.le_of_ble_eq_true rfl) (Nat.le_refl _) (fun _ => ?_)
  show zt l g d M_X7_lotBelow 0 [.ref 64, .int p0] [] s (zKi K)
  refine z_aload_n (i := 0) dX7_lotBelow_0 rfl rfl rfl ?_
  refine z_aload_n (i := 0) dX7_lotBelow_1 rfl rfl rfl ?_
  refine z_getI (x := s.1 64 18) rfl f_X7_338 i_64 rfl dX7_lotBelow_2 rfl ?_
  refine z_ldc_w (v := (1103515245 : Int32)) q_X7_431 dX7_lotBelow_5 rfl ?_
  refine z_imul dX7_lotBelow_8 rfl ?_
  refine z_sipush (v := (12345 : Int32)) dX7_lotBelow_9 (by decide) rfl ?_
  refine z_iadd dX7_lotBelow_12 rfl ?_
  refine z_ldc_w (v := (2147483647 : Int32)) q_X7_432 dX7_lotBelow_13 rfl ?_
  refine z_iand dX7_lotBelow_16 rfl ?_
  refine z_putI f_X7_338 i_64 rfl (Or.inl rfl) rfl rfl dX7_lotBelow_17 rfl ?_
  refine z_iload_n (i := 1) dX7_lotBelow_20 rfl rfl rfl ?_
  refine z_iconst (v := (1 : Int32)) dX7_lotBelow_21 (by decide) rfl ?_
  refine z_icmp_ge (pt := 29) dX7_lotBelow_22 (by decide) rfl (fun c => ?_) (fun c => ?_)
  · have h := zit h c
    refine z_aload_n (i := 0) dX7_lotBelow_29 rfl rfl rfl ?_
    refine z_getI (x := (((s.1 64 18) * (1103515245 : Int32)) + (12345 : Int32)) &&& (2147483647 : Int32)) zI_eq f_X7_338 i_64 rfl dX7_lotBelow_30 rfl ?_
    refine z_sipush (v := (256 : Int32)) dX7_lotBelow_33 (by decide) rfl ?_
    refine z_idiv dX7_lotBelow_36 (by decide) rfl ?_
    refine z_iload_n (i := 1) dX7_lotBelow_37 rfl rfl rfl ?_
    obtain ⟨a1, h⟩ := h
    refine z_irem dX7_lotBelow_38 a1 rfl ?_
    exact z_ret (some (.int ((((((s.1 64 18) * (1103515245 : Int32)) + (12345 : Int32)) &&& (2147483647 : Int32)) / (256 : Int32)) % p0))) (Or.inr (Or.inl ⟨_, _, rfl, rfl, rfl, dX7_lotBelow_39⟩)) zN200 ⟨_, rfl, h⟩
  · have h := zif h c
    refine z_iconst (v := (0 : Int32)) dX7_lotBelow_25 (by decide) rfl ?_
    refine z_goto (pn := 39) dX7_lotBelow_26 (by decide) ?_
    exact z_ret (some (.int (0 : Int32))) (Or.inr (Or.inl ⟨_, _, rfl, rfl, rfl, dX7_lotBelow_39⟩)) zN200 ⟨_, rfl, h⟩
