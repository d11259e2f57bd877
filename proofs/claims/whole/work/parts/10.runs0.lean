theorem dX0_clear_0 : decode cX0_clear 0 = .ok (.aload_n 0, 1) := by decide +kernel
theorem dX0_clear_1 : decode cX0_clear 1 = .ok (.iconst 0, 1) := by decide +kernel
theorem dX0_clear_2 : decode cX0_clear 2 = .ok (.putfield 9, 3) := by decide +kernel
theorem dX0_clear_5 : decode cX0_clear 5 = .ok (.aload_n 0, 1) := by decide +kernel
theorem dX0_clear_6 : decode cX0_clear 6 = .ok (.iconst 0, 1) := by decide +kernel
theorem dX0_clear_7 : decode cX0_clear 7 = .ok (.putfield 15, 3) := by decide +kernel
theorem dX0_clear_10 : decode cX0_clear 10 = .ok (.aload_n 0, 1) := by decide +kernel
theorem dX0_clear_11 : decode cX0_clear 11 = .ok (.bipush 64, 2) := by decide +kernel
theorem dX0_clear_13 : decode cX0_clear 13 = .ok (.putfield 18, 3) := by decide +kernel
theorem dX0_clear_16 : decode cX0_clear 16 = .ok (.aload_n 0, 1) := by decide +kernel
theorem dX0_clear_17 : decode cX0_clear 17 = .ok (.iconst (-1), 1) := by decide +kernel
theorem dX0_clear_18 : decode cX0_clear 18 = .ok (.putfield 21, 3) := by decide +kernel
theorem dX0_clear_21 : decode cX0_clear 21 = .ok (.aload_n 0, 1) := by decide +kernel
theorem dX0_clear_22 : decode cX0_clear 22 = .ok (.bipush 64, 2) := by decide +kernel
theorem dX0_clear_24 : decode cX0_clear 24 = .ok (.putfield 24, 3) := by decide +kernel
theorem dX0_clear_27 : decode cX0_clear 27 = .ok (.aload_n 0, 1) := by decide +kernel
theorem dX0_clear_28 : decode cX0_clear 28 = .ok (.iconst (-1), 1) := by decide +kernel
theorem dX0_clear_29 : decode cX0_clear 29 = .ok (.putfield 27, 3) := by decide +kernel
theorem dX0_clear_32 : decode cX0_clear 32 = .ok (.return_, 1) := by decide +kernel
set_option maxHeartbeats 4000000 in
set_option maxRecDepth 100000 in
theorem t_X0_clear {l : Launch} {g : zG} {d : Nat} {s : zS} (hR : zRok s)  {K : zS → Prop} (h : K (zI (zI (zI (zI (zI (zI s 74 0 (0 : Int32)) 74 1 (0 : Int32)) 74 2 (64 : Int32)) 74 3 (-1 : Int32)) 74 4 (64 : Int32)) 74 5 (-1 : Int32))) : zc l g d M_X0_clear [.ref 74] s (zKv K) := by
  refine zCall_of k_X0_clear (Nat.le_of_ble_eq_true rfl) (Nat.le_refl _) (fun _ => ?_)
  show zt l g d M_X0_clear 0 [.ref 74] [] s (zKv K)
  refine z_aload_n (i := 0) dX0_clear_0 rfl rfl rfl ?_
  refine z_iconst (v := (0 : Int32)) dX0_clear_1 (by decide) rfl ?_
  refine z_putI f_X0_9 i_74 rfl (Or.inl rfl) rfl rfl dX0_clear_2 rfl ?_
  refine z_aload_n (i := 0) dX0_clear_5 rfl rfl rfl ?_
  refine z_iconst (v := (0 : Int32)) dX0_clear_6 (by decide) rfl ?_
  refine z_putI f_X0_15 i_74 rfl (Or.inl rfl) rfl rfl dX0_clear_7 rfl ?_
  refine z_aload_n (i := 0) dX0_clear_10 rfl rfl rfl ?_
  refine z_bipush (v := (64 : Int32)) dX0_clear_11 (by decide) rfl ?_
  refine z_putI f_X0_18 i_74 rfl (Or.inl rfl) rfl rfl dX0_clear_13 rfl ?_
  refine z_aload_n (i := 0) dX0_clear_16 rfl rfl rfl ?_
  refine z_iconst (v := (-1 : Int32)) dX0_clear_17 (by decide) rfl ?_
  refine z_putI f_X0_21 i_74 rfl (Or.inl rfl) rfl rfl dX0_clear_18 rfl ?_
  refine z_aload_n (i := 0) dX0_clear_21 rfl rfl rfl ?_
  refine z_bipush (v := (64 : Int32)) dX0_clear_22 (by decide) rfl ?_
  refine z_putI f_X0_24 i_74 rfl (Or.inl rfl) rfl rfl dX0_clear_24 rfl ?_
  refine z_aload_n (i := 0) dX0_clear_27 rfl rfl rfl ?_
  refine z_iconst (v := (-1 : Int32)) dX0_clear_28 (by decide) rfl ?_
  refine z_putI f_X0_27 i_74 rfl (Or.inl rfl) rfl rfl dX0_clear_29 rfl ?_
  exact z_ret none (Or.inl ⟨rfl, rfl, dX0_clear_32⟩) zN200 ⟨rfl, h⟩
theorem dX0_add_0 : decode cX0_add 0 = .ok (.aload_n 0, 1) := by decide +kernel
theorem dX0_add_1 : decode cX0_add 1 = .ok (.dup, 1) := by decide +kernel
theorem dX0_add_2 : decode cX0_add 2 = .ok (.getfield 9, 3) := by decide +kernel
theorem dX0_add_5 : decode cX0_add 5 = .ok (.iconst 1, 1) := by decide +kernel
theorem dX0_add_6 : decode cX0_add 6 = .ok (.iadd, 1) := by decide +kernel
theorem dX0_add_7 : decode cX0_add 7 = .ok (.putfield 9, 3) := by decide +kernel
theorem dX0_add_10 : decode cX0_add 10 = .ok (.aload_n 0, 1) := by decide +kernel
theorem dX0_add_11 : decode cX0_add 11 = .ok (.dup, 1) := by decide +kernel
theorem dX0_add_12 : decode cX0_add 12 = .ok (.getfield 15, 3) := by decide +kernel
theorem dX0_add_15 : decode cX0_add 15 = .ok (.iload_n 2, 1) := by decide +kernel
theorem dX0_add_16 : decode cX0_add 16 = .ok (.ifCond .eq 7, 3) := by decide +kernel
theorem dX0_add_19 : decode cX0_add 19 = .ok (.iconst 1, 1) := by decide +kernel
theorem dX0_add_20 : decode cX0_add 20 = .ok (.goto 4, 3) := by decide +kernel
theorem dX0_add_23 : decode cX0_add 23 = .ok (.iconst 0, 1) := by decide +kernel
theorem dX0_add_24 : decode cX0_add 24 = .ok (.iadd, 1) := by decide +kernel
theorem dX0_add_25 : decode cX0_add 25 = .ok (.putfield 15, 3) := by decide +kernel
theorem dX0_add_28 : decode cX0_add 28 = .ok (.aload_n 0, 1) := by decide +kernel
theorem dX0_add_29 : decode cX0_add 29 = .ok (.aload_n 0, 1) := by decide +kernel
theorem dX0_add_30 : decode cX0_add 30 = .ok (.getfield 18, 3) := by decide +kernel
theorem dX0_add_33 : decode cX0_add 33 = .ok (.iload_n 1, 1) := by decide +kernel
theorem dX0_add_34 : decode cX0_add 34 = .ok (.bipush 64, 2) := by decide +kernel
theorem dX0_add_36 : decode cX0_add 36 = .ok (.idiv, 1) := by decide +kernel
theorem dX0_add_37 : decode cX0_add 37 = .ok (.invokestatic 30, 3) := by decide +kernel
theorem dX0_add_40 : decode cX0_add 40 = .ok (.putfield 18, 3) := by decide +kernel
theorem dX0_add_43 : decode cX0_add 43 = .ok (.aload_n 0, 1) := by decide +kernel
theorem dX0_add_44 : decode cX0_add 44 = .ok (.aload_n 0, 1) := by decide +kernel
theorem dX0_add_45 : decode cX0_add 45 = .ok (.getfield 21, 3) := by decide +kernel
theorem dX0_add_48 : decode cX0_add 48 = .ok (.iload_n 1, 1) := by decide +kernel
theorem dX0_add_49 : decode cX0_add 49 = .ok (.bipush 64, 2) := by decide +kernel
theorem dX0_add_51 : decode cX0_add 51 = .ok (.idiv, 1) := by decide +kernel
theorem dX0_add_52 : decode cX0_add 52 = .ok (.invokestatic 36, 3) := by decide +kernel
theorem dX0_add_55 : decode cX0_add 55 = .ok (.putfield 21, 3) := by decide +kernel
theorem dX0_add_58 : decode cX0_add 58 = .ok (.aload_n 0, 1) := by decide +kernel
theorem dX0_add_59 : decode cX0_add 59 = .ok (.aload_n 0, 1) := by decide +kernel
theorem dX0_add_60 : decode cX0_add 60 = .ok (.getfield 24, 3) := by decide +kernel
theorem dX0_add_63 : decode cX0_add 63 = .ok (.iload_n 1, 1) := by decide +kernel
theorem dX0_add_64 : decode cX0_add 64 = .ok (.bipush 64, 2) := by decide +kernel
theorem dX0_add_66 : decode cX0_add 66 = .ok (.irem, 1) := by decide +kernel
theorem dX0_add_67 : decode cX0_add 67 = .ok (.invokestatic 30, 3) := by decide +kernel
theorem dX0_add_70 : decode cX0_add 70 = .ok (.putfield 24, 3) := by decide +kernel
theorem dX0_add_73 : decode cX0_add 73 = .ok (.aload_n 0, 1) := by decide +kernel
theorem dX0_add_74 : decode cX0_add 74 = .ok (.aload_n 0, 1) := by decide +kernel
theorem dX0_add_75 : decode cX0_add 75 = .ok (.getfield 27, 3) := by decide +kernel
theorem dX0_add_78 : decode cX0_add 78 = .ok (.iload_n 1, 1) := by decide +kernel
theorem dX0_add_79 : decode cX0_add 79 = .ok (.bipush 64, 2) := by decide +kernel
theorem dX0_add_81 : decode cX0_add 81 = .ok (.irem, 1) := by decide +kernel
theorem dX0_add_82 : decode cX0_add 82 = .ok (.invokestatic 36, 3) := by decide +kernel
theorem dX0_add_85 : decode cX0_add 85 = .ok (.putfield 27, 3) := by decide +kernel
theorem dX0_add_88 : decode cX0_add 88 = .ok (.return_, 1) := by decide +kernel
set_option maxHeartbeats 4000000 in
set_option maxRecDepth 100000 in
theorem t_X0_add {l : Launch} {g : zG} {d : Nat} {s : zS} (hR : zRok s) {p0 : Int32} {p1 : Bool} {K : zS → Prop} (h : (if p1 = true then K (zI (zI (zI (zI (zI (zI s 74 0 ((s.1 74 0) + (1 : Int32))) 74 1 ((s.1 74 1) + (1 : Int32))) 74 2 (zmin (s.1 74 2) (p0 / (64 : Int32)))) 74 3 (zmax (s.1 74 3) (p0 / (64 : Int32)))) 74 4 (zmin (s.1 74 4) (p0 % (64 : Int32)))) 74 5 (zmax (s.1 74 5) (p0 % (64 : Int32)))) else K (zI (zI (zI (zI (zI (zI s 74 0 ((s.1 74 0) + (1 : Int32))) 74 1 ((s.1 74 1) + (0 : Int32))) 74 2 (zmin (s.1 74 2) (p0 / (64 : Int32)))) 74 3 (zmax (s.1 74 3) (p0 / (64 : Int32)))) 74 4 (zmin (s.1 74 4) (p0 % (64 : Int32)))) 74 5 (zmax (s.1 74 5) (p0 % (64 : Int32)))))) : zc l g (d + 1) M_X0_add [.ref 74, .int p0, .int (zb p1)] s (zKv K) := by
  refine zCall_of k_X0_add (Nat.le_of_ble_eq_true rfl) (Nat.le_refl _) (fun _ => ?_)
  show zt l g (d + 1) M_X0_add 0 [.ref 74, .int p0, .int (zb p1)] [] s (zKv K)
  refine z_aload_n (i := 0) dX0_add_0 rfl rfl rfl ?_
  refine z_dup dX0_add_1 rfl rfl ?_
  refine z_getI (x := s.1 74 0) rfl f_X0_9 i_74 rfl dX0_add_2 rfl ?_
  refine z_iconst (v := (1 : Int32)) dX0_add_5 (by decide) rfl ?_
  refine z_iadd dX0_add_6 rfl ?_
  refine z_putI f_X0_9 i_74 rfl (Or.inl rfl) rfl rfl dX0_add_7 rfl ?_
  refine z_aload_n (i := 0) dX0_add_10 rfl rfl rfl ?_
  refine z_dup dX0_add_11 rfl rfl ?_
  refine z_getI (x := s.1 74 1) (zI_k (by decide)) f_X0_15 i_74 rfl dX0_add_12 rfl ?_
  refine z_iload_n (i := 2) dX0_add_15 rfl rfl rfl ?_
  refine z_ifb_eq (pt := 23) dX0_add_16 (by decide) rfl (fun c => ?_) (fun c => ?_)
  · have h := zif h (by rw [c]; exact Bool.false_ne_true)
    refine z_iconst (v := (0 : Int32)) dX0_add_23 (by decide) rfl ?_
    refine z_iadd dX0_add_24 rfl ?_
    refine z_putI f_X0_15 i_74 rfl (Or.inl rfl) rfl rfl dX0_add_25 rfl ?_
    refine z_aload_n (i := 0) dX0_add_28 rfl rfl rfl ?_
    refine z_aload_n (i := 0) dX0_add_29 rfl rfl rfl ?_
    refine z_getI (x := s.1 74 2) ((zI_k (by decide)).trans (zI_k (by decide))) f_X0_18 i_74 rfl dX0_add_30 rfl ?_
    refine z_iload_n (i := 1) dX0_add_33 rfl rfl rfl ?_
    refine z_bipush (v := (64 : Int32)) dX0_add_34 (by decide) rfl ?_
    refine z_idiv dX0_add_36 (by decide) rfl ?_
    refine z_mmin m_X0_30 dX0_add_37 (Nat.le_of_ble_eq_true rfl) rfl ?_
    refine z_putI f_X0_18 i_74 rfl (Or.inl rfl) rfl rfl dX0_add_40 rfl ?_
    refine z_aload_n (i := 0) dX0_add_43 rfl rfl rfl ?_
    refine z_aload_n (i := 0) dX0_add_44 rfl rfl rfl ?_
    refine z_getI (x := s.1 74 3) ((zI_k (by decide)).trans ((zI_k (by decide)).trans (zI_k (by decide)))) f_X0_21 i_74 rfl dX0_add_45 rfl ?_
    refine z_iload_n (i := 1) dX0_add_48 rfl rfl rfl ?_
    refine z_bipush (v := (64 : Int32)) dX0_add_49 (by decide) rfl ?_
    refine z_idiv dX0_add_51 (by decide) rfl ?_
    refine z_mmax m_X0_36 dX0_add_52 (Nat.le_of_ble_eq_true rfl) rfl ?_
    refine z_putI f_X0_21 i_74 rfl (Or.inl rfl) rfl rfl dX0_add_55 rfl ?_
    refine z_aload_n (i := 0) dX0_add_58 rfl rfl rfl ?_
    refine z_aload_n (i := 0) dX0_add_59 rfl rfl rfl ?_
    refine z_getI (x := s.1 74 4) ((zI_k (by decide)).trans ((zI_k (by decide)).trans ((zI_k (by decide)).trans (zI_k (by decide))))) f_X0_24 i_74 rfl dX0_add_60 rfl ?_
    refine z_iload_n (i := 1) dX0_add_63 rfl rfl rfl ?_
    refine z_bipush (v := (64 : Int32)) dX0_add_64 (by decide) rfl ?_
    refine z_irem dX0_add_66 (by decide) rfl ?_
    refine z_mmin m_X0_30 dX0_add_67 (Nat.le_of_ble_eq_true rfl) rfl ?_
    refine z_putI f_X0_24 i_74 rfl (Or.inl rfl) rfl rfl dX0_add_70 rfl ?_
    refine z_aload_n (i := 0) dX0_add_73 rfl rfl rfl ?_
    refine z_aload_n (i := 0) dX0_add_74 rfl rfl rfl ?_
    refine z_getI (x := s.1 74 5) ((zI_k (by decide)).trans ((zI_k (by decide)).trans ((zI_k (by decide)).trans ((zI_k (by decide)).trans (zI_k (by decide)))))) f_X0_27 i_74 rfl dX0_add_75 rfl ?_
    refine z_iload_n (i := 1) dX0_add_78 rfl rfl rfl ?_
    refine z_bipush (v := (64 : Int32)) dX0_add_79 (by decide) rfl ?_
    refine z_irem dX0_add_81 (by decide) rfl ?_
    refine z_mmax m_X0_36 dX0_add_82 (Nat.le_of_ble_eq_true rfl) rfl ?_
    refine z_putI f_X0_27 i_74 rfl (Or.inl rfl) rfl rfl dX0_add_85 rfl ?_
    exact z_ret none (Or.inl ⟨rfl, rfl, dX0_add_88⟩) zN200 ⟨rfl, h⟩
  · have h := zit h c
    refine z_iconst (v := (1 : Int32)) dX0_add_19 (by decide) rfl ?_
    refine z_goto (pn := 24) dX0_add_20 (by decide) ?_
    refine z_iadd dX0_add_24 rfl ?_
    refine z_putI f_X0_15 i_74 rfl (Or.inl rfl) rfl rfl dX0_add_25 rfl ?_
    refine z_aload_n (i := 0) dX0_add_28 rfl rfl rfl ?_
    refine z_aload_n (i := 0) dX0_add_29 rfl rfl rfl ?_
    refine z_getI (x := s.1 74 2) ((zI_k (by decide)).trans (zI_k (by decide))) f_X0_18 i_74 rfl dX0_add_30 rfl ?_
    refine z_iload_n (i := 1) dX0_add_33 rfl rfl rfl ?_
    refine z_bipush (v := (64 : Int32)) dX0_add_34 (by decide) rfl ?_
    refine z_idiv dX0_add_36 (by decide) rfl ?_
    refine z_mmin m_X0_30 dX0_add_37 (Nat.le_of_ble_eq_true rfl) rfl ?_
    refine z_putI f_X0_18 i_74 rfl (Or.inl rfl) rfl rfl dX0_add_40 rfl ?_
    refine z_aload_n (i := 0) dX0_add_43 rfl rfl rfl ?_
    refine z_aload_n (i := 0) dX0_add_44 rfl rfl rfl ?_
    refine z_getI (x := s.1 74 3) ((zI_k (by decide)).trans ((zI_k (by decide)).trans (zI_k (by decide)))) f_X0_21 i_74 rfl dX0_add_45 rfl ?_
    refine z_iload_n (i := 1) dX0_add_48 rfl rfl rfl ?_
    refine z_bipush (v := (64 : Int32)) dX0_add_49 (by decide) rfl ?_
    refine z_idiv dX0_add_51 (by decide) rfl ?_
    refine z_mmax m_X0_36 dX0_add_52 (Nat.le_of_ble_eq_true rfl) rfl ?_
    refine z_putI f_X0_21 i_74 rfl (Or.inl rfl) rfl rfl dX0_add_55 rfl ?_
    refine z_aload_n (i := 0) dX0_add_58 rfl rfl rfl ?_
    refine z_aload_n (i := 0) dX0_add_59 rfl rfl rfl ?_
    refine z_getI (x := s.1 74 4) ((zI_k (by decide)).trans ((zI_k (by decide)).trans ((zI_k (by decide)).trans (zI_k (by decide))))) f_X0_24 i_74 rfl dX0_add_60 rfl ?_
    refine z_iload_n (i := 1) dX0_add_63 rfl rfl rfl ?_
    refine z_bipush (v := (64 : Int32)) dX0_add_64 (by decide) rfl ?_
    refine z_irem dX0_add_66 (by decide) rfl ?_
    refine z_mmin m_X0_30 dX0_add_67 (Nat.le_of_ble_eq_true rfl) rfl ?_
    refine z_putI f_X0_24 i_74 rfl (Or.inl rfl) rfl rfl dX0_add_70 rfl ?_
    refine z_aload_n (i := 0) dX0_add_73 rfl rfl rfl ?_
    refine z_aload_n (i := 0) dX0_add_74 rfl rfl rfl ?_
    refine z_getI (x := s.1 74 5) ((zI_k (by decide)).trans ((zI_k (by decide)).trans ((zI_k (by decide)).trans ((zI_k (by decide)).trans (zI_k (by decide)))))) f_X0_27 i_74 rfl dX0_add_75 rfl ?_
    refine z_iload_n (i := 1) dX0_add_78 rfl rfl rfl ?_
    refine z_bipush (v := (64 : Int32)) dX0_add_79 (by decide) rfl ?_
    refine z_irem dX0_add_81 (by decide) rfl ?_
    refine z_mmax m_X0_36 dX0_add_82 (Nat.le_of_ble_eq_true rfl) rfl ?_
    refine z_putI f_X0_27 i_74 rfl (Or.inl rfl) rfl rfl dX0_add_85 rfl ?_
    exact z_ret none (Or.inl ⟨rfl, rfl, dX0_add_88⟩) zN200 ⟨rfl, h⟩
theorem dX0_part_0 : decode cX0_part 0 = .ok (.aload_n 0, 1) := by decide +kernel
theorem dX0_part_1 : decode cX0_part 1 = .ok (.getfield 9, 3) := by decide +kernel
theorem dX0_part_4 : decode cX0_part 4 = .ok (.ifCond .ne 5, 3) := by decide +kernel
theorem dX0_part_7 : decode cX0_part 7 = .ok (.iconst (-1), 1) := by decide +kernel
theorem dX0_part_8 : decode cX0_part 8 = .ok (.ireturn, 1) := by decide +kernel
theorem dX0_part_9 : decode cX0_part 9 = .ok (.iload_n 1, 1) := by decide +kernel
theorem dX0_part_10 : decode cX0_part 10 = .ok (.tableswitch 68 0 5 #[38, 43, 48, 53, 58, 63], 38) := by decide +kernel
theorem dX0_part_48 : decode cX0_part 48 = .ok (.aload_n 0, 1) := by decide +kernel
theorem dX0_part_49 : decode cX0_part 49 = .ok (.getfield 9, 3) := by decide +kernel
theorem dX0_part_52 : decode cX0_part 52 = .ok (.ireturn, 1) := by decide +kernel
theorem dX0_part_53 : decode cX0_part 53 = .ok (.aload_n 0, 1) := by decide +kernel
theorem dX0_part_54 : decode cX0_part 54 = .ok (.getfield 15, 3) := by decide +kernel
theorem dX0_part_57 : decode cX0_part 57 = .ok (.ireturn, 1) := by decide +kernel
theorem dX0_part_58 : decode cX0_part 58 = .ok (.aload_n 0, 1) := by decide +kernel
theorem dX0_part_59 : decode cX0_part 59 = .ok (.getfield 18, 3) := by decide +kernel
theorem dX0_part_62 : decode cX0_part 62 = .ok (.ireturn, 1) := by decide +kernel
theorem dX0_part_63 : decode cX0_part 63 = .ok (.aload_n 0, 1) := by decide +kernel
theorem dX0_part_64 : decode cX0_part 64 = .ok (.getfield 21, 3) := by decide +kernel
theorem dX0_part_67 : decode cX0_part 67 = .ok (.ireturn, 1) := by decide +kernel
theorem dX0_part_68 : decode cX0_part 68 = .ok (.aload_n 0, 1) := by decide +kernel
theorem dX0_part_69 : decode cX0_part 69 = .ok (.getfield 24, 3) := by decide +kernel
theorem dX0_part_72 : decode cX0_part 72 = .ok (.ireturn, 1) := by decide +kernel
theorem dX0_part_73 : decode cX0_part 73 = .ok (.aload_n 0, 1) := by decide +kernel
theorem dX0_part_74 : decode cX0_part 74 = .ok (.getfield 27, 3) := by decide +kernel
theorem dX0_part_77 : decode cX0_part 77 = .ok (.ireturn, 1) := by decide +kernel
theorem dX0_part_78 : decode cX0_part 78 = .ok (.iconst (-1), 1) := by decide +kernel
theorem dX0_part_79 : decode cX0_part 79 = .ok (.ireturn, 1) := by decide +kernel
set_option maxHeartbeats 4000000 in
set_option maxRecDepth 100000 in
theorem t_X0_part {l : Launch} {g : zG} {d : Nat} {s : zS} (hR : zRok s) {p0 : Int32} {K : Int32 → zS → Prop} (h : (if (s.1 74 0) = 0 then K (-1 : Int32) s else (if p0 = (0 : Int32) then K (s.1 74 0) s else (if p0 = (1 : Int32) then K (s.1 74 1) s else (if p0 = (2 : Int32) then K (s.1 74 2) s else (if p0 = (3 : Int32) then K (s.1 74 3) s else (if p0 = (4 : Int32) then K (s.1 74 4) s else (if p0 = (5 : Int32) then K (s.1 74 5) s else K (-1 : Int32) s)))))))) : zc l g d M_X0_part [.ref 74, .int p0] s (zKi K) := by
  refine zCall_of k_X0_part (Nat.le_of_ble_eq_true rfl) (Nat.le_refl _) (fun _ => ?_)
  show zt l g d M_X0_part 0 [.ref 74, .int p0] [] s (zKi K)
  refine z_aload_n (i := 0) dX0_part_0 rfl rfl rfl ?_
  refine z_getI (x := s.1 74 0) rfl f_X0_9 i_74 rfl dX0_part_1 rfl ?_
  refine z_if_ne (pt := 9) dX0_part_4 (by decide) rfl (fun c => ?_) (fun c => ?_)
  · have h := zif h c
    refine z_iload_n (i := 1) dX0_part_9 rfl rfl rfl ?_
    by_cases c0 : p0 = (0 : Int32)
    · have h := zit h c0
      refine z_tableIn (pt := 48) dX0_part_10 (by rw [c0]; decide) (by rw [c0]; decide) (by rw [c0]; rfl) (by decide) ?_
      refine z_aload_n (i := 0) dX0_part_48 rfl rfl rfl ?_
      refine z_getI (x := s.1 74 0) rfl f_X0_9 i_74 rfl dX0_part_49 rfl ?_
      exact z_ret (some (.int (s.1 74 0))) (Or.inr (Or.inl ⟨_, _, rfl, rfl, rfl, dX0_part_52⟩)) zN200 ⟨_, rfl, h⟩
    have h := zif h c0
    by_cases c1 : p0 = (1 : Int32)
    · have h := zit h c1
      refine z_tableIn (pt := 53) dX0_part_10 (by rw [c1]; decide) (by rw [c1]; decide) (by rw [c1]; rfl) (by decide) ?_
      refine z_aload_n (i := 0) dX0_part_53 rfl rfl rfl ?_
      refine z_getI (x := s.1 74 1) rfl f_X0_15 i_74 rfl dX0_part_54 rfl ?_
      exact z_ret (some (.int (s.1 74 1))) (Or.inr (Or.inl ⟨_, _, rfl, rfl, rfl, dX0_part_57⟩)) zN200 ⟨_, rfl, h⟩
    have h := zif h c1
    by_cases c2 : p0 = (2 : Int32)
    · have h := zit h c2
      refine z_tableIn (pt := 58) dX0_part_10 (by rw [c2]; decide) (by rw [c2]; decide) (by rw [c2]; rfl) (by decide) ?_
      refine z_aload_n (i := 0) dX0_part_58 rfl rfl rfl ?_
      refine z_getI (x := s.1 74 2) rfl f_X0_18 i_74 rfl dX0_part_59 rfl ?_
      exact z_ret (some (.int (s.1 74 2))) (Or.inr (Or.inl ⟨_, _, rfl, rfl, rfl, dX0_part_62⟩)) zN200 ⟨_, rfl, h⟩
    have h := zif h c2
    by_cases c3 : p0 = (3 : Int32)
    · have h := zit h c3
      refine z_tableIn (pt := 63) dX0_part_10 (by rw [c3]; decide) (by rw [c3]; decide) (by rw [c3]; rfl) (by decide) ?_
      refine z_aload_n (i := 0) dX0_part_63 rfl rfl rfl ?_
      refine z_getI (x := s.1 74 3) rfl f_X0_21 i_74 rfl dX0_part_64 rfl ?_
      exact z_ret (some (.int (s.1 74 3))) (Or.inr (Or.inl ⟨_, _, rfl, rfl, rfl, dX0_part_67⟩)) zN200 ⟨_, rfl, h⟩
    have h := zif h c3
    by_cases c4 : p0 = (4 : Int32)
    · have h := zit h c4
      refine z_tableIn (pt := 68) dX0_part_10 (by rw [c4]; decide) (by rw [c4]; decide) (by rw [c4]; rfl) (by decide) ?_
      refine z_aload_n (i := 0) dX0_part_68 rfl rfl rfl ?_
      refine z_getI (x := s.1 74 4) rfl f_X0_24 i_74 rfl dX0_part_69 rfl ?_
      exact z_ret (some (.int (s.1 74 4))) (Or.inr (Or.inl ⟨_, _, rfl, rfl, rfl, dX0_part_72⟩)) zN200 ⟨_, rfl, h⟩
    have h := zif h c4
    by_cases c5 : p0 = (5 : Int32)
    · have h := zit h c5
      refine z_tableIn (pt := 73) dX0_part_10 (by rw [c5]; decide) (by rw [c5]; decide) (by rw [c5]; rfl) (by decide) ?_
      refine z_aload_n (i := 0) dX0_part_73 rfl rfl rfl ?_
      refine z_getI (x := s.1 74 5) rfl f_X0_27 i_74 rfl dX0_part_74 rfl ?_
      exact z_ret (some (.int (s.1 74 5))) (Or.inr (Or.inl ⟨_, _, rfl, rfl, rfl, dX0_part_77⟩)) zN200 ⟨_, rfl, h⟩
    have h := zif h c5
    refine z_tableOut (pt := 78) dX0_part_10 (z_swout 0 6 (fun j hj => ?_)) (by decide) ?_
    · rcases (show j = 0 ∨ j = 1 ∨ j = 2 ∨ j = 3 ∨ j = 4 ∨ j = 5 by omega) with rfl | rfl | rfl | rfl | rfl | rfl
      · exact c0
      · exact c1
      · exact c2
      · exact c3
      · exact c4
      · exact c5
    · refine z_iconst (v := (-1 : Int32)) dX0_part_78 (by decide) rfl ?_
      exact z_ret (some (.int (-1 : Int32))) (Or.inr (Or.inl ⟨_, _, rfl, rfl, rfl, dX0_part_79⟩)) zN200 ⟨_, rfl, h⟩
  · have h := zit h c
    refine z_iconst (v := (-1 : Int32)) dX0_part_7 (by decide) rfl ?_
    exact z_ret (some (.int (-1 : Int32))) (Or.inr (Or.inl ⟨_, _, rfl, rfl, rfl, dX0_part_8⟩)) zN200 ⟨_, rfl, h⟩
theorem dX1_raise_0 : decode cX1_raise 0 = .ok (.aload_n 0, 1) := by decide +kernel
theorem dX1_raise_1 : decode cX1_raise 1 = .ok (.getfield 24, 3) := by decide +kernel
theorem dX1_raise_4 : decode cX1_raise 4 = .ok (.bipush 8, 2) := by decide +kernel
theorem dX1_raise_6 : decode cX1_raise 6 = .ok (.if_icmp .lt 5, 3) := by decide +kernel
theorem dX1_raise_9 : decode cX1_raise 9 = .ok (.iconst (-1), 1) := by decide +kernel
theorem dX1_raise_10 : decode cX1_raise 10 = .ok (.ireturn, 1) := by decide +kernel
theorem dX1_raise_11 : decode cX1_raise 11 = .ok (.iload_n 1, 1) := by decide +kernel
theorem dX1_raise_12 : decode cX1_raise 12 = .ok (.bipush 64, 2) := by decide +kernel
theorem dX1_raise_14 : decode cX1_raise 14 = .ok (.idiv, 1) := by decide +kernel
theorem dX1_raise_15 : decode cX1_raise 15 = .ok (.iload_n 2, 1) := by decide +kernel
theorem dX1_raise_16 : decode cX1_raise 16 = .ok (.bipush 64, 2) := by decide +kernel
theorem dX1_raise_18 : decode cX1_raise 18 = .ok (.idiv, 1) := by decide +kernel
theorem dX1_raise_19 : decode cX1_raise 19 = .ok (.invokestatic 28, 3) := by decide +kernel
theorem dX1_raise_22 : decode cX1_raise 22 = .ok (.istore 4, 2) := by decide +kernel
theorem dX1_raise_24 : decode cX1_raise 24 = .ok (.iload_n 1, 1) := by decide +kernel
theorem dX1_raise_25 : decode cX1_raise 25 = .ok (.bipush 64, 2) := by decide +kernel
theorem dX1_raise_27 : decode cX1_raise 27 = .ok (.irem, 1) := by decide +kernel
theorem dX1_raise_28 : decode cX1_raise 28 = .ok (.iload_n 2, 1) := by decide +kernel
theorem dX1_raise_29 : decode cX1_raise 29 = .ok (.bipush 64, 2) := by decide +kernel
theorem dX1_raise_31 : decode cX1_raise 31 = .ok (.irem, 1) := by decide +kernel
theorem dX1_raise_32 : decode cX1_raise 32 = .ok (.invokestatic 28, 3) := by decide +kernel
theorem dX1_raise_35 : decode cX1_raise 35 = .ok (.istore 5, 2) := by decide +kernel
theorem dX1_raise_37 : decode cX1_raise 37 = .ok (.iload_n 1, 1) := by decide +kernel
theorem dX1_raise_38 : decode cX1_raise 38 = .ok (.bipush 64, 2) := by decide +kernel
theorem dX1_raise_40 : decode cX1_raise 40 = .ok (.idiv, 1) := by decide +kernel
theorem dX1_raise_41 : decode cX1_raise 41 = .ok (.iload_n 2, 1) := by decide +kernel
theorem dX1_raise_42 : decode cX1_raise 42 = .ok (.bipush 64, 2) := by decide +kernel
theorem dX1_raise_44 : decode cX1_raise 44 = .ok (.idiv, 1) := by decide +kernel
theorem dX1_raise_45 : decode cX1_raise 45 = .ok (.invokestatic 34, 3) := by decide +kernel
theorem dX1_raise_48 : decode cX1_raise 48 = .ok (.istore 6, 2) := by decide +kernel
theorem dX1_raise_50 : decode cX1_raise 50 = .ok (.iload 6, 2) := by decide +kernel
theorem dX1_raise_52 : decode cX1_raise 52 = .ok (.iload 4, 2) := by decide +kernel
theorem dX1_raise_54 : decode cX1_raise 54 = .ok (.if_icmp .gt 83, 3) := by decide +kernel
theorem dX1_raise_57 : decode cX1_raise 57 = .ok (.iload_n 1, 1) := by decide +kernel
theorem dX1_raise_58 : decode cX1_raise 58 = .ok (.bipush 64, 2) := by decide +kernel
theorem dX1_raise_60 : decode cX1_raise 60 = .ok (.irem, 1) := by decide +kernel
theorem dX1_raise_61 : decode cX1_raise 61 = .ok (.iload_n 2, 1) := by decide +kernel
theorem dX1_raise_62 : decode cX1_raise 62 = .ok (.bipush 64, 2) := by decide +kernel
theorem dX1_raise_64 : decode cX1_raise 64 = .ok (.irem, 1) := by decide +kernel
theorem dX1_raise_65 : decode cX1_raise 65 = .ok (.invokestatic 34, 3) := by decide +kernel
theorem dX1_raise_68 : decode cX1_raise 68 = .ok (.istore 7, 2) := by decide +kernel
theorem dX1_raise_70 : decode cX1_raise 70 = .ok (.iload 7, 2) := by decide +kernel
theorem dX1_raise_72 : decode cX1_raise 72 = .ok (.iload 5, 2) := by decide +kernel
theorem dX1_raise_74 : decode cX1_raise 74 = .ok (.if_icmp .gt 57, 3) := by decide +kernel
theorem dX1_raise_77 : decode cX1_raise 77 = .ok (.iload_n 3, 1) := by decide +kernel
theorem dX1_raise_78 : decode cX1_raise 78 = .ok (.aload_n 0, 1) := by decide +kernel
theorem dX1_raise_79 : decode cX1_raise 79 = .ok (.getfield 9, 3) := by decide +kernel
theorem dX1_raise_82 : decode cX1_raise 82 = .ok (.iload 6, 2) := by decide +kernel
theorem dX1_raise_84 : decode cX1_raise 84 = .ok (.bipush 64, 2) := by decide +kernel
theorem dX1_raise_86 : decode cX1_raise 86 = .ok (.imul, 1) := by decide +kernel
theorem dX1_raise_87 : decode cX1_raise 87 = .ok (.iload 7, 2) := by decide +kernel
theorem dX1_raise_89 : decode cX1_raise 89 = .ok (.iadd, 1) := by decide +kernel
theorem dX1_raise_90 : decode cX1_raise 90 = .ok (.iaload, 1) := by decide +kernel
theorem dX1_raise_91 : decode cX1_raise 91 = .ok (.if_icmp .le 34, 3) := by decide +kernel
theorem dX1_raise_94 : decode cX1_raise 94 = .ok (.aload_n 0, 1) := by decide +kernel
theorem dX1_raise_95 : decode cX1_raise 95 = .ok (.getfield 9, 3) := by decide +kernel
theorem dX1_raise_98 : decode cX1_raise 98 = .ok (.iload 6, 2) := by decide +kernel
theorem dX1_raise_100 : decode cX1_raise 100 = .ok (.bipush 64, 2) := by decide +kernel
theorem dX1_raise_102 : decode cX1_raise 102 = .ok (.imul, 1) := by decide +kernel
theorem dX1_raise_103 : decode cX1_raise 103 = .ok (.iload 7, 2) := by decide +kernel
theorem dX1_raise_105 : decode cX1_raise 105 = .ok (.iadd, 1) := by decide +kernel
theorem dX1_raise_106 : decode cX1_raise 106 = .ok (.iload_n 3, 1) := by decide +kernel
theorem dX1_raise_107 : decode cX1_raise 107 = .ok (.iastore, 1) := by decide +kernel
theorem dX1_raise_108 : decode cX1_raise 108 = .ok (.aload_n 0, 1) := by decide +kernel
theorem dX1_raise_109 : decode cX1_raise 109 = .ok (.getfield 15, 3) := by decide +kernel
theorem dX1_raise_112 : decode cX1_raise 112 = .ok (.iload 6, 2) := by decide +kernel
theorem dX1_raise_114 : decode cX1_raise 114 = .ok (.bipush 64, 2) := by decide +kernel
theorem dX1_raise_116 : decode cX1_raise 116 = .ok (.imul, 1) := by decide +kernel
theorem dX1_raise_117 : decode cX1_raise 117 = .ok (.iload 7, 2) := by decide +kernel
theorem dX1_raise_119 : decode cX1_raise 119 = .ok (.iadd, 1) := by decide +kernel
theorem dX1_raise_120 : decode cX1_raise 120 = .ok (.aload_n 0, 1) := by decide +kernel
theorem dX1_raise_121 : decode cX1_raise 121 = .ok (.getfield 24, 3) := by decide +kernel
theorem dX1_raise_124 : decode cX1_raise 124 = .ok (.iastore, 1) := by decide +kernel
theorem dX1_raise_125 : decode cX1_raise 125 = .ok (.iinc 7 1, 3) := by decide +kernel
theorem dX1_raise_128 : decode cX1_raise 128 = .ok (.goto (-58), 3) := by decide +kernel
theorem dX1_raise_131 : decode cX1_raise 131 = .ok (.iinc 6 1, 3) := by decide +kernel
theorem dX1_raise_134 : decode cX1_raise 134 = .ok (.goto (-84), 3) := by decide +kernel
theorem dX1_raise_137 : decode cX1_raise 137 = .ok (.aload_n 0, 1) := by decide +kernel
theorem dX1_raise_138 : decode cX1_raise 138 = .ok (.aload_n 0, 1) := by decide +kernel
theorem dX1_raise_139 : decode cX1_raise 139 = .ok (.getfield 37, 3) := by decide +kernel
theorem dX1_raise_142 : decode cX1_raise 142 = .ok (.iload_n 3, 1) := by decide +kernel
theorem dX1_raise_143 : decode cX1_raise 143 = .ok (.invokestatic 28, 3) := by decide +kernel
theorem dX1_raise_146 : decode cX1_raise 146 = .ok (.putfield 37, 3) := by decide +kernel
theorem dX1_raise_149 : decode cX1_raise 149 = .ok (.aload_n 0, 1) := by decide +kernel
theorem dX1_raise_150 : decode cX1_raise 150 = .ok (.dup, 1) := by decide +kernel
theorem dX1_raise_151 : decode cX1_raise 151 = .ok (.getfield 24, 3) := by decide +kernel
theorem dX1_raise_154 : decode cX1_raise 154 = .ok (.dup_x1, 1) := by decide +kernel
theorem dX1_raise_155 : decode cX1_raise 155 = .ok (.iconst 1, 1) := by decide +kernel
theorem dX1_raise_156 : decode cX1_raise 156 = .ok (.iadd, 1) := by decide +kernel
theorem dX1_raise_157 : decode cX1_raise 157 = .ok (.putfield 24, 3) := by decide +kernel
theorem dX1_raise_160 : decode cX1_raise 160 = .ok (.ireturn, 1) := by decide +kernel
set_option maxHeartbeats 4000000 in
set_option maxRecDepth 100000 in
theorem t_X1_raise {l : Launch} {g : zG} {d : Nat} {s : zS} (hR : zRok s) {p0 : Int32} {p1 : Int32} {p2 : Int32} {K : Int32 → zS → Prop} (h : (if (s.1 65 3) < (8 : Int32) then (∀ v1 : Int32, v1 = zmax (p0 / (64 : Int32)) (p1 / (64 : Int32)) → (∀ v2 : Int32, v2 = zmax (p0 % (64 : Int32)) (p1 % (64 : Int32)) → (∀ v3 : Int32, v3 = zmin (p0 / (64 : Int32)) (p1 / (64 : Int32)) → zt l g (d + 1) M_X1_raise 50 [.ref 65, .int p0, .int p1, .int p2, .int v1, .int v2, .int v3, zJ] [] s (zKi K)))) else K (-1 : Int32) s)) : zc l g (d + 1) M_X1_raise [.ref 65, .int p0, .int p1, .int p2] s (zKi K) := by
  refine zCall_of k_X1_raise (Nat.le_of_ble_eq_true rfl) (Nat.le_refl _) (fun _ => ?_)
  show zt l g (d + 1) M_X1_raise 0 [.ref 65, .int p0, .int p1, .int p2, zJ, zJ, zJ, zJ] [] s (zKi K)
  refine z_aload_n (i := 0) dX1_raise_0 rfl rfl rfl ?_
  refine z_getI (x := s.1 65 3) rfl f_X1_24 i_65 rfl dX1_raise_1 rfl ?_
  refine z_bipush (v := (8 : Int32)) dX1_raise_4 (by decide) rfl ?_
  refine z_icmp_lt (pt := 11) dX1_raise_6 (by decide) rfl (fun c => ?_) (fun c => ?_)
  · have h := zit h c
    refine z_iload_n (i := 1) dX1_raise_11 rfl rfl rfl ?_
    refine z_bipush (v := (64 : Int32)) dX1_raise_12 (by decide) rfl ?_
    refine z_idiv dX1_raise_14 (by decide) rfl ?_
    refine z_iload_n (i := 2) dX1_raise_15 rfl rfl rfl ?_
    refine z_bipush (v := (64 : Int32)) dX1_raise_16 (by decide) rfl ?_
    refine z_idiv dX1_raise_18 (by decide) rfl ?_
    refine z_mmax m_X1_28 dX1_raise_19 (Nat.le_of_ble_eq_true rfl) rfl ?_
    refine z_istore dX1_raise_22 (by decide) (zokd rfl) rfl ?_
    obtain ⟨v1, ev1⟩ : ∃ x : Int32, x = zmax (p0 / (64 : Int32)) (p1 / (64 : Int32)) := ⟨_, rfl⟩
    rw [← ev1]
    have h := h v1 ev1
    show zt l g (d + 1) M_X1_raise 24 [.ref 65, .int p0, .int p1, .int p2, .int v1, zJ, zJ, zJ] [] s _
    refine z_iload_n (i := 1) dX1_raise_24 rfl rfl rfl ?_
    refine z_bipush (v := (64 : Int32)) dX1_raise_25 (by decide) rfl ?_
    refine z_irem dX1_raise_27 (by decide) rfl ?_
    refine z_iload_n (i := 2) dX1_raise_28 rfl rfl rfl ?_
    refine z_bipush (v := (64 : Int32)) dX1_raise_29 (by decide) rfl ?_
    refine z_irem dX1_raise_31 (by decide) rfl ?_
    refine z_mmax m_X1_28 dX1_raise_32 (Nat.le_of_ble_eq_true rfl) rfl ?_
    refine z_istore dX1_raise_35 (by decide) (zokd rfl) rfl ?_
    obtain ⟨v2, ev2⟩ : ∃ x : Int32, x = zmax (p0 % (64 : Int32)) (p1 % (64 : Int32)) := ⟨_, rfl⟩
    rw [← ev2]
    have h := h v2 ev2
    show zt l g (d + 1) M_X1_raise 37 [.ref 65, .int p0, .int p1, .int p2, .int v1, .int v2, zJ, zJ] [] s _
    refine z_iload_n (i := 1) dX1_raise_37 rfl rfl rfl ?_
    refine z_bipush (v := (64 : Int32)) dX1_raise_38 (by decide) rfl ?_
    refine z_idiv dX1_raise_40 (by decide) rfl ?_
    refine z_iload_n (i := 2) dX1_raise_41 rfl rfl rfl ?_
    refine z_bipush (v := (64 : Int32)) dX1_raise_42 (by decide) rfl ?_
    refine z_idiv dX1_raise_44 (by decide) rfl ?_
    refine z_mmin m_X1_34 dX1_raise_45 (Nat.le_of_ble_eq_true rfl) rfl ?_
    refine z_istore dX1_raise_48 (by decide) (zokd rfl) rfl ?_
    obtain ⟨v3, ev3⟩ : ∃ x : Int32, x = zmin (p0 / (64 : Int32)) (p1 / (64 : Int32)) := ⟨_, rfl⟩
    rw [← ev3]
    have h := h v3 ev3
    show zt l g (d + 1) M_X1_raise 50 [.ref 65, .int p0, .int p1, .int p2, .int v1, .int v2, .int v3, zJ] [] s _
    exact h
  · have h := zif h c
    refine z_iconst (v := (-1 : Int32)) dX1_raise_9 (by decide) rfl ?_
    exact z_ret (some (.int (-1 : Int32))) (Or.inr (Or.inl ⟨_, _, rfl, rfl, rfl, dX1_raise_10⟩)) zN200 ⟨_, rfl, h⟩
set_option maxHeartbeats 4000000 in
set_option maxRecDepth 100000 in
theorem t_X1_raise_50 {l : Launch} {g : zG} {d : Nat} {s : zS} (hR : zRok s) {x1 : Int32} {x2 : Int32} {x3 : Int32} {x4 : Int32} {x5 : Int32} {x6 : Int32} {K : Int32 → zS → Prop} (h : (if x4 < x6 then K (s.1 65 3) (zI (zI s 65 2 (zmax (s.1 65 2) x3)) 65 3 ((s.1 65 3) + (1 : Int32))) else (∀ v1 : Int32, v1 = zmin (x1 % (64 : Int32)) (x2 % (64 : Int32)) → zt l g (d + 1) M_X1_raise 70 [.ref 65, .int x1, .int x2, .int x3, .int x4, .int x5, .int x6, .int v1] [] s (zKi K)))) : zt l g (d + 1) M_X1_raise 50 [.ref 65, .int x1, .int x2, .int x3, .int x4, .int x5, .int x6, zJ] [] s (zKi K) := by
  refine z_iload dX1_raise_50 rfl rfl ?_
  refine z_iload dX1_raise_52 rfl rfl ?_
  refine z_icmp_gt (pt := 137) dX1_raise_54 (by decide) rfl (fun c => ?_) (fun c => ?_)
  · have h := zit h c
    refine z_aload_n (i := 0) dX1_raise_137 rfl rfl rfl ?_
    refine z_aload_n (i := 0) dX1_raise_138 rfl rfl rfl ?_
    refine z_getI (x := s.1 65 2) rfl f_X1_37 i_65 rfl dX1_raise_139 rfl ?_
    refine z_iload_n (i := 3) dX1_raise_142 rfl rfl rfl ?_
    refine z_mmax m_X1_28 dX1_raise_143 (Nat.le_of_ble_eq_true rfl) rfl ?_
    refine z_putI f_X1_37 i_65 rfl (Or.inl rfl) rfl rfl dX1_raise_146 rfl ?_
    refine z_aload_n (i := 0) dX1_raise_149 rfl rfl rfl ?_
    refine z_dup dX1_raise_150 rfl rfl ?_
    refine z_getI (x := s.1 65 3) (zI_k (by decide)) f_X1_24 i_65 rfl dX1_raise_151 rfl ?_
    refine z_dup_x1 dX1_raise_154 rfl rfl rfl ?_
    refine z_iconst (v := (1 : Int32)) dX1_raise_155 (by decide) rfl ?_
    refine z_iadd dX1_raise_156 rfl ?_
    refine z_putI f_X1_24 i_65 rfl (Or.inl rfl) rfl rfl dX1_raise_157 rfl ?_
    exact z_ret (some (.int (s.1 65 3))) (Or.inr (Or.inl ⟨_, _, rfl, rfl, rfl, dX1_raise_160⟩)) zN200 ⟨_, rfl, h⟩
  · have h := zif h c
    refine z_iload_n (i := 1) dX1_raise_57 rfl rfl rfl ?_
    refine z_bipush (v := (64 : Int32)) dX1_raise_58 (by decide) rfl ?_
    refine z_irem dX1_raise_60 (by decide) rfl ?_
    refine z_iload_n (i := 2) dX1_raise_61 rfl rfl rfl ?_
    refine z_bipush (v := (64 : Int32)) dX1_raise_62 (by decide) rfl ?_
    refine z_irem dX1_raise_64 (by decide) rfl ?_
    refine z_mmin m_X1_34 dX1_raise_65 (Nat.le_of_ble_eq_true rfl) rfl ?_
    refine z_istore dX1_raise_68 (by decide) (zokd rfl) rfl ?_
    obtain ⟨v1, ev1⟩ : ∃ x : Int32, x = zmin (x1 % (64 : Int32)) (x2 % (64 : Int32)) := ⟨_, rfl⟩
    rw [← ev1]
    have h := h v1 ev1
    show zt l g (d + 1) M_X1_raise 70 [.ref 65, .int x1, .int x2, .int x3, .int x4, .int x5, .int x6, .int v1] [] s _
    exact h
set_option maxHeartbeats 4000000 in
set_option maxRecDepth 100000 in
theorem t_X1_raise_70 {l : Launch} {g : zG} {d : Nat} {s : zS} (hR : zRok s) {x1 : Int32} {x2 : Int32} {x3 : Int32} {x4 : Int32} {x5 : Int32} {x6 : Int32} {x7 : Int32} {K : Int32 → zS → Prop} (h : (if x5 < x7 then zt l g (d + 1) M_X1_raise 50 [.ref 65, .int x1, .int x2, .int x3, .int x4, .int x5, .int (x6 + (1 : Int32)), zJ] [] s (zKi K) else (vp_in ((x6 * (64 : Int32)) + x7) 4096 ∧ (if x3 ≤ (s.1 66 (((x6 * (64 : Int32)) + x7).toNatClampNeg)) then zt l g (d + 1) M_X1_raise 70 [.ref 65, .int x1, .int x2, .int x3, .int x4, .int x5, .int x6, .int (x7 + (1 : Int32))] [] s (zKi K) else (vp_in ((x6 * (64 : Int32)) + x7) 4096 ∧ (vp_in ((x6 * (64 : Int32)) + x7) 4096 ∧ zt l g (d + 1) M_X1_raise 70 [.ref 65, .int x1, .int x2, .int x3, .int x4, .int x5, .int x6, .int (x7 + (1 : Int32))] [] (zI (zI s 66 (((x6 * (64 : Int32)) + x7).toNatClampNeg) x3) 67 (((x6 * (64 : Int32)) + x7).toNatClampNeg) (s.1 65 3)) (zKi K))))))) : zt l g (d + 1) M_X1_raise 70 [.ref 65, .int x1, .int x2, .int x3, .int x4, .int x5, .int x6, .int x7] [] s (zKi K) := by
  refine z_iload dX1_raise_70 rfl rfl ?_
  refine z_iload dX1_raise_72 rfl rfl ?_
  refine z_icmp_gt (pt := 131) dX1_raise_74 (by decide) rfl (fun c => ?_) (fun c => ?_)
  · have h := zit h c
    refine z_iinc (v := x6 + (1 : Int32)) dX1_raise_131 rfl rfl (by decide) (zokd rfl) rfl ?_
    show zt l g (d + 1) M_X1_raise 134 [.ref 65, .int x1, .int x2, .int x3, .int x4, .int x5, .int (x6 + (1 : Int32)), .int x7] [] s _
    refine z_goto (pn := 50) dX1_raise_134 (by decide) ?_
    refine z_wk (ls' := [.ref 65, .int x1, .int x2, .int x3, .int x4, .int x5, .int (x6 + (1 : Int32)), zJ]) ⟨Or.inr rfl, Or.inr rfl, Or.inr rfl, Or.inr rfl, Or.inr rfl, Or.inr rfl, Or.inr rfl, Or.inl rfl, trivial⟩ ?_
    exact h
  · have h := zif h c
    refine z_iload_n (i := 3) dX1_raise_77 rfl rfl rfl ?_
    refine z_aload_n (i := 0) dX1_raise_78 rfl rfl rfl ?_
    refine z_getR (q := 66) f_X1_9 i_65 rfl (r_65_0 hR) (by decide) dX1_raise_79 rfl ?_
    refine z_iload dX1_raise_82 rfl rfl ?_
    refine z_bipush (v := (64 : Int32)) dX1_raise_84 (by decide) rfl ?_
    refine z_imul dX1_raise_86 rfl ?_
    refine z_iload dX1_raise_87 rfl rfl ?_
    refine z_iadd dX1_raise_89 rfl ?_
    obtain ⟨a1, h⟩ := h
    have wa1 := vin a1
    refine z_iald (x := s.1 66 (((x6 * (64 : Int32)) + x7).toNatClampNeg)) rfl a_66 a1 dX1_raise_90 rfl ?_
    refine z_icmp_le (pt := 125) dX1_raise_91 (by decide) rfl (fun c => ?_) (fun c => ?_)
    · have h := zit h c
      refine z_iinc (v := x7 + (1 : Int32)) dX1_raise_125 rfl rfl (by decide) (zokd rfl) rfl ?_
      show zt l g (d + 1) M_X1_raise 128 [.ref 65, .int x1, .int x2, .int x3, .int x4, .int x5, .int x6, .int (x7 + (1 : Int32))] [] s _
      refine z_goto (pn := 70) dX1_raise_128 (by decide) ?_
      exact h
    · have h := zif h c
      refine z_aload_n (i := 0) dX1_raise_94 rfl rfl rfl ?_
      refine z_getR (q := 66) f_X1_9 i_65 rfl (r_65_0 hR) (by decide) dX1_raise_95 rfl ?_
      refine z_iload dX1_raise_98 rfl rfl ?_
      refine z_bipush (v := (64 : Int32)) dX1_raise_100 (by decide) rfl ?_
      refine z_imul dX1_raise_102 rfl ?_
      refine z_iload dX1_raise_103 rfl rfl ?_
      refine z_iadd dX1_raise_105 rfl ?_
      refine z_iload_n (i := 3) dX1_raise_106 rfl rfl rfl ?_
      obtain ⟨a2, h⟩ := h
      have wa2 := vin a2
      refine z_iast a_66 a2 dX1_raise_107 rfl ?_
      show zt l g (d + 1) M_X1_raise 108 [.ref 65, .int x1, .int x2, .int x3, .int x4, .int x5, .int x6, .int x7] [] (zI s 66 (((x6 * (64 : Int32)) + x7).toNatClampNeg) x3) _
      refine z_aload_n (i := 0) dX1_raise_108 rfl rfl rfl ?_
      refine z_getR (q := 67) f_X1_15 i_65 rfl (r_65_1 hR) (by decide) dX1_raise_109 rfl ?_
      refine z_iload dX1_raise_112 rfl rfl ?_
      refine z_bipush (v := (64 : Int32)) dX1_raise_114 (by decide) rfl ?_
      refine z_imul dX1_raise_116 rfl ?_
      refine z_iload dX1_raise_117 rfl rfl ?_
      refine z_iadd dX1_raise_119 rfl ?_
      refine z_aload_n (i := 0) dX1_raise_120 rfl rfl rfl ?_
      refine z_getI (x := s.1 65 3) (zI_o (by decide)) f_X1_24 i_65 rfl dX1_raise_121 rfl ?_
      obtain ⟨a3, h⟩ := h
      have wa3 := vin a3
      refine z_iast a_67 a3 dX1_raise_124 rfl ?_
      show zt l g (d + 1) M_X1_raise 125 [.ref 65, .int x1, .int x2, .int x3, .int x4, .int x5, .int x6, .int x7] [] (zI (zI s 66 (((x6 * (64 : Int32)) + x7).toNatClampNeg) x3) 67 (((x6 * (64 : Int32)) + x7).toNatClampNeg) (s.1 65 3)) _
      refine z_iinc (v := x7 + (1 : Int32)) dX1_raise_125 rfl rfl (by decide) (zokd rfl) rfl ?_
      show zt l g (d + 1) M_X1_raise 128 [.ref 65, .int x1, .int x2, .int x3, .int x4, .int x5, .int x6, .int (x7 + (1 : Int32))] [] (zI (zI s 66 (((x6 * (64 : Int32)) + x7).toNatClampNeg) x3) 67 (((x6 * (64 : Int32)) + x7).toNatClampNeg) (s.1 65 3)) _
      refine z_goto (pn := 70) dX1_raise_128 (by decide) ?_
      exact h
theorem dX1_groundAt_0 : decode cX1_groundAt 0 = .ok (.iload_n 1, 1) := by decide +kernel
theorem dX1_groundAt_1 : decode cX1_groundAt 1 = .ok (.ifCond .lt 33, 3) := by decide +kernel
theorem dX1_groundAt_4 : decode cX1_groundAt 4 = .ok (.iload_n 1, 1) := by decide +kernel
theorem dX1_groundAt_5 : decode cX1_groundAt 5 = .ok (.bipush 64, 2) := by decide +kernel
theorem dX1_groundAt_7 : decode cX1_groundAt 7 = .ok (.if_icmp .ge 27, 3) := by decide +kernel
theorem dX1_groundAt_10 : decode cX1_groundAt 10 = .ok (.iload_n 2, 1) := by decide +kernel
theorem dX1_groundAt_11 : decode cX1_groundAt 11 = .ok (.ifCond .lt 23, 3) := by decide +kernel
theorem dX1_groundAt_14 : decode cX1_groundAt 14 = .ok (.iload_n 2, 1) := by decide +kernel
theorem dX1_groundAt_15 : decode cX1_groundAt 15 = .ok (.bipush 64, 2) := by decide +kernel
theorem dX1_groundAt_17 : decode cX1_groundAt 17 = .ok (.if_icmp .ge 17, 3) := by decide +kernel
theorem dX1_groundAt_20 : decode cX1_groundAt 20 = .ok (.aload_n 0, 1) := by decide +kernel
theorem dX1_groundAt_21 : decode cX1_groundAt 21 = .ok (.getfield 9, 3) := by decide +kernel
theorem dX1_groundAt_24 : decode cX1_groundAt 24 = .ok (.iload_n 1, 1) := by decide +kernel
theorem dX1_groundAt_25 : decode cX1_groundAt 25 = .ok (.bipush 64, 2) := by decide +kernel
theorem dX1_groundAt_27 : decode cX1_groundAt 27 = .ok (.imul, 1) := by decide +kernel
theorem dX1_groundAt_28 : decode cX1_groundAt 28 = .ok (.iload_n 2, 1) := by decide +kernel
theorem dX1_groundAt_29 : decode cX1_groundAt 29 = .ok (.iadd, 1) := by decide +kernel
theorem dX1_groundAt_30 : decode cX1_groundAt 30 = .ok (.iaload, 1) := by decide +kernel
theorem dX1_groundAt_31 : decode cX1_groundAt 31 = .ok (.goto 4, 3) := by decide +kernel
theorem dX1_groundAt_34 : decode cX1_groundAt 34 = .ok (.iconst 0, 1) := by decide +kernel
theorem dX1_groundAt_35 : decode cX1_groundAt 35 = .ok (.ireturn, 1) := by decide +kernel
set_option maxHeartbeats 4000000 in
set_option maxRecDepth 100000 in
theorem t_X1_groundAt {l : Launch} {g : zG} {d : Nat} {s : zS} (hR : zRok s) {p0 : Int32} {p1 : Int32} {K : Int32 → zS → Prop} (h : (if p0 < 0 then K (0 : Int32) s else (if (64 : Int32) ≤ p0 then K (0 : Int32) s else (if p1 < 0 then K (0 : Int32) s else (if (64 : Int32) ≤ p1 then K (0 : Int32) s else (vp_in ((p0 * (64 : Int32)) + p1) 4096 ∧ K (s.1 66 (((p0 * (64 : Int32)) + p1).toNatClampNeg)) s)))))) : zc l g d M_X1_groundAt [.ref 65, .int p0, .int p1] s (zKi K) := by
  refine zCall_of k_X1_groundAt (Nat.le_of_ble_eq_true rfl) (Nat.le_refl _) (fun _ => ?_)
  show zt l g d M_X1_groundAt 0 [.ref 65, .int p0, .int p1] [] s (zKi K)
  refine z_iload_n (i := 1) dX1_groundAt_0 rfl rfl rfl ?_
  refine z_if_lt (pt := 34) dX1_groundAt_1 (by decide) rfl (fun c => ?_) (fun c => ?_)
  · have h := zit h c
    refine z_iconst (v := (0 : Int32)) dX1_groundAt_34 (by decide) rfl ?_
    exact z_ret (some (.int (0 : Int32))) (Or.inr (Or.inl ⟨_, _, rfl, rfl, rfl, dX1_groundAt_35⟩)) zN200 ⟨_, rfl, h⟩
  · have h := zif h c
    refine z_iload_n (i := 1) dX1_groundAt_4 rfl rfl rfl ?_
    refine z_bipush (v := (64 : Int32)) dX1_groundAt_5 (by decide) rfl ?_
    refine z_icmp_ge (pt := 34) dX1_groundAt_7 (by decide) rfl (fun c => ?_) (fun c => ?_)
    · have h := zit h c
      refine z_iconst (v := (0 : Int32)) dX1_groundAt_34 (by decide) rfl ?_
      exact z_ret (some (.int (0 : Int32))) (Or.inr (Or.inl ⟨_, _, rfl, rfl, rfl, dX1_groundAt_35⟩)) zN200 ⟨_, rfl, h⟩
    · have h := zif h c
      refine z_iload_n (i := 2) dX1_groundAt_10 rfl rfl rfl ?_
      refine z_if_lt (pt := 34) dX1_groundAt_11 (by decide) rfl (fun c => ?_) (fun c => ?_)
      · have h := zit h c
        refine z_iconst (v := (0 : Int32)) dX1_groundAt_34 (by decide) rfl ?_
        exact z_ret (some (.int (0 : Int32))) (Or.inr (Or.inl ⟨_, _, rfl, rfl, rfl, dX1_groundAt_35⟩)) zN200 ⟨_, rfl, h⟩
      · have h := zif h c
        refine z_iload_n (i := 2) dX1_groundAt_14 rfl rfl rfl ?_
        refine z_bipush (v := (64 : Int32)) dX1_groundAt_15 (by decide) rfl ?_
        refine z_icmp_ge (pt := 34) dX1_groundAt_17 (by decide) rfl (fun c => ?_) (fun c => ?_)
        · have h := zit h c
          refine z_iconst (v := (0 : Int32)) dX1_groundAt_34 (by decide) rfl ?_
          exact z_ret (some (.int (0 : Int32))) (Or.inr (Or.inl ⟨_, _, rfl, rfl, rfl, dX1_groundAt_35⟩)) zN200 ⟨_, rfl, h⟩
        · have h := zif h c
          refine z_aload_n (i := 0) dX1_groundAt_20 rfl rfl rfl ?_
          refine z_getR (q := 66) f_X1_9 i_65 rfl (r_65_0 hR) (by decide) dX1_groundAt_21 rfl ?_
          refine z_iload_n (i := 1) dX1_groundAt_24 rfl rfl rfl ?_
          refine z_bipush (v := (64 : Int32)) dX1_groundAt_25 (by decide) rfl ?_
          refine z_imul dX1_groundAt_27 rfl ?_
          refine z_iload_n (i := 2) dX1_groundAt_28 rfl rfl rfl ?_
          refine z_iadd dX1_groundAt_29 rfl ?_
          obtain ⟨a1, h⟩ := h
          have wa1 := vin a1
          refine z_iald (x := s.1 66 (((p0 * (64 : Int32)) + p1).toNatClampNeg)) rfl a_66 a1 dX1_groundAt_30 rfl ?_
          refine z_goto (pn := 35) dX1_groundAt_31 (by decide) ?_
          exact z_ret (some (.int (s.1 66 (((p0 * (64 : Int32)) + p1).toNatClampNeg)))) (Or.inr (Or.inl ⟨_, _, rfl, rfl, rfl, dX1_groundAt_35⟩)) zN200 ⟨_, rfl, h⟩
theorem dX1_makerAt_0 : decode cX1_makerAt 0 = .ok (.iload_n 1, 1) := by decide +kernel
theorem dX1_makerAt_1 : decode cX1_makerAt 1 = .ok (.ifCond .lt 33, 3) := by decide +kernel
theorem dX1_makerAt_4 : decode cX1_makerAt 4 = .ok (.iload_n 1, 1) := by decide +kernel
theorem dX1_makerAt_5 : decode cX1_makerAt 5 = .ok (.bipush 64, 2) := by decide +kernel
theorem dX1_makerAt_7 : decode cX1_makerAt 7 = .ok (.if_icmp .ge 27, 3) := by decide +kernel
theorem dX1_makerAt_10 : decode cX1_makerAt 10 = .ok (.iload_n 2, 1) := by decide +kernel
theorem dX1_makerAt_11 : decode cX1_makerAt 11 = .ok (.ifCond .lt 23, 3) := by decide +kernel
theorem dX1_makerAt_14 : decode cX1_makerAt 14 = .ok (.iload_n 2, 1) := by decide +kernel
theorem dX1_makerAt_15 : decode cX1_makerAt 15 = .ok (.bipush 64, 2) := by decide +kernel
theorem dX1_makerAt_17 : decode cX1_makerAt 17 = .ok (.if_icmp .ge 17, 3) := by decide +kernel
theorem dX1_makerAt_20 : decode cX1_makerAt 20 = .ok (.aload_n 0, 1) := by decide +kernel
theorem dX1_makerAt_21 : decode cX1_makerAt 21 = .ok (.getfield 15, 3) := by decide +kernel
theorem dX1_makerAt_24 : decode cX1_makerAt 24 = .ok (.iload_n 1, 1) := by decide +kernel
theorem dX1_makerAt_25 : decode cX1_makerAt 25 = .ok (.bipush 64, 2) := by decide +kernel
theorem dX1_makerAt_27 : decode cX1_makerAt 27 = .ok (.imul, 1) := by decide +kernel
theorem dX1_makerAt_28 : decode cX1_makerAt 28 = .ok (.iload_n 2, 1) := by decide +kernel
theorem dX1_makerAt_29 : decode cX1_makerAt 29 = .ok (.iadd, 1) := by decide +kernel
theorem dX1_makerAt_30 : decode cX1_makerAt 30 = .ok (.iaload, 1) := by decide +kernel
theorem dX1_makerAt_31 : decode cX1_makerAt 31 = .ok (.goto 4, 3) := by decide +kernel
theorem dX1_makerAt_34 : decode cX1_makerAt 34 = .ok (.iconst (-1), 1) := by decide +kernel
theorem dX1_makerAt_35 : decode cX1_makerAt 35 = .ok (.ireturn, 1) := by decide +kernel
set_option maxHeartbeats 4000000 in
set_option maxRecDepth 100000 in
theorem t_X1_makerAt {l : Launch} {g : zG} {d : Nat} {s : zS} (hR : zRok s) {p0 : Int32} {p1 : Int32} {K : Int32 → zS → Prop} (h : (if p0 < 0 then K (-1 : Int32) s else (if (64 : Int32) ≤ p0 then K (-1 : Int32) s else (if p1 < 0 then K (-1 : Int32) s else (if (64 : Int32) ≤ p1 then K (-1 : Int32) s else (vp_in ((p0 * (64 : Int32)) + p1) 4096 ∧ K (s.1 67 (((p0 * (64 : Int32)) + p1).toNatClampNeg)) s)))))) : zc l g d M_X1_makerAt [.ref 65, .int p0, .int p1] s (zKi K) := by
  refine zCall_of k_X1_makerAt (Nat.le_of_ble_eq_true rfl) (Nat.le_refl _) (fun _ => ?_)
  show zt l g d M_X1_makerAt 0 [.ref 65, .int p0, .int p1] [] s (zKi K)
  refine z_iload_n (i := 1) dX1_makerAt_0 rfl rfl rfl ?_
  refine z_if_lt (pt := 34) dX1_makerAt_1 (by decide) rfl (fun c => ?_) (fun c => ?_)
  · have h := zit h c
    refine z_iconst (v := (-1 : Int32)) dX1_makerAt_34 (by decide) rfl ?_
    exact z_ret (some (.int (-1 : Int32))) (Or.inr (Or.inl ⟨_, _, rfl, rfl, rfl, dX1_makerAt_35⟩)) zN200 ⟨_, rfl, h⟩
  · have h := zif h c
    refine z_iload_n (i := 1) dX1_makerAt_4 rfl rfl rfl ?_
    refine z_bipush (v := (64 : Int32)) dX1_makerAt_5 (by decide) rfl ?_
    refine z_icmp_ge (pt := 34) dX1_makerAt_7 (by decide) rfl (fun c => ?_) (fun c => ?_)
    · have h := zit h c
      refine z_iconst (v := (-1 : Int32)) dX1_makerAt_34 (by decide) rfl ?_
      exact z_ret (some (.int (-1 : Int32))) (Or.inr (Or.inl ⟨_, _, rfl, rfl, rfl, dX1_makerAt_35⟩)) zN200 ⟨_, rfl, h⟩
    · have h := zif h c
      refine z_iload_n (i := 2) dX1_makerAt_10 rfl rfl rfl ?_
      refine z_if_lt (pt := 34) dX1_makerAt_11 (by decide) rfl (fun c => ?_) (fun c => ?_)
      · have h := zit h c
        refine z_iconst (v := (-1 : Int32)) dX1_makerAt_34 (by decide) rfl ?_
        exact z_ret (some (.int (-1 : Int32))) (Or.inr (Or.inl ⟨_, _, rfl, rfl, rfl, dX1_makerAt_35⟩)) zN200 ⟨_, rfl, h⟩
      · have h := zif h c
        refine z_iload_n (i := 2) dX1_makerAt_14 rfl rfl rfl ?_
        refine z_bipush (v := (64 : Int32)) dX1_makerAt_15 (by decide) rfl ?_
        refine z_icmp_ge (pt := 34) dX1_makerAt_17 (by decide) rfl (fun c => ?_) (fun c => ?_)
        · have h := zit h c
          refine z_iconst (v := (-1 : Int32)) dX1_makerAt_34 (by decide) rfl ?_
          exact z_ret (some (.int (-1 : Int32))) (Or.inr (Or.inl ⟨_, _, rfl, rfl, rfl, dX1_makerAt_35⟩)) zN200 ⟨_, rfl, h⟩
        · have h := zif h c
          refine z_aload_n (i := 0) dX1_makerAt_20 rfl rfl rfl ?_
          refine z_getR (q := 67) f_X1_15 i_65 rfl (r_65_1 hR) (by decide) dX1_makerAt_21 rfl ?_
          refine z_iload_n (i := 1) dX1_makerAt_24 rfl rfl rfl ?_
          refine z_bipush (v := (64 : Int32)) dX1_makerAt_25 (by decide) rfl ?_
          refine z_imul dX1_makerAt_27 rfl ?_
          refine z_iload_n (i := 2) dX1_makerAt_28 rfl rfl rfl ?_
          refine z_iadd dX1_makerAt_29 rfl ?_
          obtain ⟨a1, h⟩ := h
          have wa1 := vin a1
          refine z_iald (x := s.1 67 (((p0 * (64 : Int32)) + p1).toNatClampNeg)) rfl a_67 a1 dX1_makerAt_30 rfl ?_
          refine z_goto (pn := 35) dX1_makerAt_31 (by decide) ?_
          exact z_ret (some (.int (s.1 67 (((p0 * (64 : Int32)) + p1).toNatClampNeg)))) (Or.inr (Or.inl ⟨_, _, rfl, rfl, rfl, dX1_makerAt_35⟩)) zN200 ⟨_, rfl, h⟩
theorem dX3_clear_0 : decode cX3_clear 0 = .ok (.aload_n 0, 1) := by decide +kernel
theorem dX3_clear_1 : decode cX3_clear 1 = .ok (.iconst 0, 1) := by decide +kernel
theorem dX3_clear_2 : decode cX3_clear 2 = .ok (.putfield 27, 3) := by decide +kernel
theorem dX3_clear_5 : decode cX3_clear 5 = .ok (.aload_n 0, 1) := by decide +kernel
theorem dX3_clear_6 : decode cX3_clear 6 = .ok (.iconst 0, 1) := by decide +kernel
theorem dX3_clear_7 : decode cX3_clear 7 = .ok (.putfield 31, 3) := by decide +kernel
theorem dX3_clear_10 : decode cX3_clear 10 = .ok (.aload_n 0, 1) := by decide +kernel
theorem dX3_clear_11 : decode cX3_clear 11 = .ok (.iconst 0, 1) := by decide +kernel
theorem dX3_clear_12 : decode cX3_clear 12 = .ok (.putfield 35, 3) := by decide +kernel
theorem dX3_clear_15 : decode cX3_clear 15 = .ok (.return_, 1) := by decide +kernel
set_option maxHeartbeats 4000000 in
set_option maxRecDepth 100000 in
theorem t_X3_clear {l : Launch} {g : zG} {d : Nat} {s : zS} (hR : zRok s) {o : Nat} (ho : o = 79 ∨ o = 85) {K : zS → Prop} (h : K (zI (zI (zI s o 1 (0 : Int32)) o 2 (0 : Int32)) o 5 (0 : Int32))) : zc l g d M_X3_clear [.ref o] s (zKv K) := by
  refine zCall_of k_X3_clear (Nat.le_of_ble_eq_true rfl) (Nat.le_refl _) (fun _ => ?_)
  show zt l g d M_X3_clear 0 [.ref o] [] s (zKv K)
  refine z_aload_n (i := 0) dX3_clear_0 rfl rfl rfl ?_
  refine z_iconst (v := (0 : Int32)) dX3_clear_1 (by decide) rfl ?_
  refine z_putI f_X3_27 (i_Ru ho) rfl (Or.inl rfl) rfl rfl dX3_clear_2 rfl ?_
  refine z_aload_n (i := 0) dX3_clear_5 rfl rfl rfl ?_
  refine z_iconst (v := (0 : Int32)) dX3_clear_6 (by decide) rfl ?_
  refine z_putI f_X3_31 (i_Ru ho) rfl (Or.inl rfl) (by decide) (by decide) dX3_clear_7 rfl ?_
  refine z_aload_n (i := 0) dX3_clear_10 rfl rfl rfl ?_
  refine z_iconst (v := (0 : Int32)) dX3_clear_11 (by decide) rfl ?_
  refine z_putI f_X3_35 (i_Ru ho) rfl (Or.inl rfl) rfl rfl dX3_clear_12 rfl ?_
  exact z_ret none (Or.inl ⟨rfl, rfl, dX3_clear_15⟩) zN200 ⟨rfl, h⟩
theorem dX3_emit_0 : decode cX3_emit 0 = .ok (.aload_n 0, 1) := by decide +kernel
theorem dX3_emit_1 : decode cX3_emit 1 = .ok (.getfield 27, 3) := by decide +kernel
theorem dX3_emit_4 : decode cX3_emit 4 = .ok (.sipush 400, 3) := by decide +kernel
theorem dX3_emit_7 : decode cX3_emit 7 = .ok (.if_icmp .ge 23, 3) := by decide +kernel
theorem dX3_emit_10 : decode cX3_emit 10 = .ok (.aload_n 0, 1) := by decide +kernel
theorem dX3_emit_11 : decode cX3_emit 11 = .ok (.getfield 9, 3) := by decide +kernel
theorem dX3_emit_14 : decode cX3_emit 14 = .ok (.aload_n 0, 1) := by decide +kernel
theorem dX3_emit_15 : decode cX3_emit 15 = .ok (.getfield 27, 3) := by decide +kernel
theorem dX3_emit_18 : decode cX3_emit 18 = .ok (.iload_n 1, 1) := by decide +kernel
theorem dX3_emit_19 : decode cX3_emit 19 = .ok (.iastore, 1) := by decide +kernel
theorem dX3_emit_20 : decode cX3_emit 20 = .ok (.aload_n 0, 1) := by decide +kernel
theorem dX3_emit_21 : decode cX3_emit 21 = .ok (.dup, 1) := by decide +kernel
theorem dX3_emit_22 : decode cX3_emit 22 = .ok (.getfield 27, 3) := by decide +kernel
theorem dX3_emit_25 : decode cX3_emit 25 = .ok (.iconst 1, 1) := by decide +kernel
theorem dX3_emit_26 : decode cX3_emit 26 = .ok (.iadd, 1) := by decide +kernel
theorem dX3_emit_27 : decode cX3_emit 27 = .ok (.putfield 27, 3) := by decide +kernel
theorem dX3_emit_30 : decode cX3_emit 30 = .ok (.return_, 1) := by decide +kernel
set_option maxHeartbeats 4000000 in
set_option maxRecDepth 100000 in
theorem t_X3_emit {l : Launch} {g : zG} {d : Nat} {s : zS} (hR : zRok s) {o : Nat} (ho : o = 79 ∨ o = 85) {p0 : Int32} {K : zS → Prop} (h : (if (400 : Int32) ≤ (s.1 o 1) then K s else (vp_in (s.1 o 1) 400 ∧ K (zI (zI s (o + 1) ((s.1 o 1).toNatClampNeg) p0) o 1 (((zI s (o + 1) ((s.1 o 1).toNatClampNeg) p0).1 o 1) + (1 : Int32)))))) : zc l g d M_X3_emit [.ref o, .int p0] s (zKv K) := by
  refine zCall_of k_X3_emit (Nat.le_of_ble_eq_true rfl) (Nat.le_refl _) (fun _ => ?_)
  show zt l g d M_X3_emit 0 [.ref o, .int p0] [] s (zKv K)
  refine z_aload_n (i := 0) dX3_emit_0 rfl rfl rfl ?_
  refine z_getI (x := s.1 o 1) rfl f_X3_27 (i_Ru ho) rfl dX3_emit_1 rfl ?_
  refine z_sipush (v := (400 : Int32)) dX3_emit_4 (by decide) rfl ?_
  refine z_icmp_ge (pt := 30) dX3_emit_7 (by decide) rfl (fun c => ?_) (fun c => ?_)
  · have h := zit h c
    exact z_ret none (Or.inl ⟨rfl, rfl, dX3_emit_30⟩) zN200 ⟨rfl, h⟩
  · have h := zif h c
    refine z_aload_n (i := 0) dX3_emit_10 rfl rfl rfl ?_
    refine z_getR (q := o + 1) f_X3_9 (i_Ru ho) rfl (r_Ru1 hR ho) (by omega) dX3_emit_11 rfl ?_
    refine z_aload_n (i := 0) dX3_emit_14 rfl rfl rfl ?_
    refine z_getI (x := s.1 o 1) rfl f_X3_27 (i_Ru ho) rfl dX3_emit_15 rfl ?_
    refine z_iload_n (i := 1) dX3_emit_18 rfl rfl rfl ?_
    obtain ⟨a1, h⟩ := h
    have wa1 := vin a1
    refine z_iast (a_Ru1 ho) a1 dX3_emit_19 rfl ?_
    show zt l g d M_X3_emit 20 [.ref o, .int p0] [] (zI s (o + 1) ((s.1 o 1).toNatClampNeg) p0) _
    refine z_aload_n (i := 0) dX3_emit_20 rfl rfl rfl ?_
    refine z_dup dX3_emit_21 rfl rfl ?_
    refine z_getI (x := (zI s (o + 1) ((s.1 o 1).toNatClampNeg) p0).1 o 1) rfl f_X3_27 (i_Ru ho) rfl dX3_emit_22 rfl ?_
    refine z_iconst (v := (1 : Int32)) dX3_emit_25 (by decide) rfl ?_
    refine z_iadd dX3_emit_26 rfl ?_
    refine z_putI f_X3_27 (i_Ru ho) rfl (Or.inl rfl) rfl rfl dX3_emit_27 rfl ?_
    exact z_ret none (Or.inl ⟨rfl, rfl, dX3_emit_30⟩) zN200 ⟨rfl, h⟩
theorem dX3_setGrow_0 : decode cX3_setGrow 0 = .ok (.aload_n 0, 1) := by decide +kernel
theorem dX3_setGrow_1 : decode cX3_setGrow 1 = .ok (.iconst 1, 1) := by decide +kernel
theorem dX3_setGrow_2 : decode cX3_setGrow 2 = .ok (.putfield 31, 3) := by decide +kernel
theorem dX3_setGrow_5 : decode cX3_setGrow 5 = .ok (.aload_n 0, 1) := by decide +kernel
theorem dX3_setGrow_6 : decode cX3_setGrow 6 = .ok (.iload_n 1, 1) := by decide +kernel
theorem dX3_setGrow_7 : decode cX3_setGrow 7 = .ok (.putfield 38, 3) := by decide +kernel
theorem dX3_setGrow_10 : decode cX3_setGrow 10 = .ok (.aload_n 0, 1) := by decide +kernel
theorem dX3_setGrow_11 : decode cX3_setGrow 11 = .ok (.aload_n 0, 1) := by decide +kernel
theorem dX3_setGrow_12 : decode cX3_setGrow 12 = .ok (.getfield 27, 3) := by decide +kernel
theorem dX3_setGrow_15 : decode cX3_setGrow 15 = .ok (.putfield 41, 3) := by decide +kernel
theorem dX3_setGrow_18 : decode cX3_setGrow 18 = .ok (.return_, 1) := by decide +kernel
set_option maxHeartbeats 4000000 in
set_option maxRecDepth 100000 in
theorem t_X3_setGrow {l : Launch} {g : zG} {d : Nat} {s : zS} (hR : zRok s) {o : Nat} (ho : o = 79 ∨ o = 85) {p0 : Int32} {K : zS → Prop} (h : K (zI (zI (zI s o 2 (1 : Int32)) o 3 p0) o 4 (s.1 o 1))) : zc l g d M_X3_setGrow [.ref o, .int p0] s (zKv K) := by
  refine zCall_of k_X3_setGrow (Nat.le_of_ble_eq_true rfl) (Nat.le_refl _) (fun _ => ?_)
  show zt l g d M_X3_setGrow 0 [.ref o, .int p0] [] s (zKv K)
  refine z_aload_n (i := 0) dX3_setGrow_0 rfl rfl rfl ?_
  refine z_iconst (v := (1 : Int32)) dX3_setGrow_1 (by decide) rfl ?_
  refine z_putI f_X3_31 (i_Ru ho) rfl (Or.inl rfl) (by decide) (by decide) dX3_setGrow_2 rfl ?_
  refine z_aload_n (i := 0) dX3_setGrow_5 rfl rfl rfl ?_
  refine z_iload_n (i := 1) dX3_setGrow_6 rfl rfl rfl ?_
  refine z_putI f_X3_38 (i_Ru ho) rfl (Or.inl rfl) rfl rfl dX3_setGrow_7 rfl ?_
  refine z_aload_n (i := 0) dX3_setGrow_10 rfl rfl rfl ?_
  refine z_aload_n (i := 0) dX3_setGrow_11 rfl rfl rfl ?_
  refine z_getI (x := s.1 o 1) ((zI_k (by decide)).trans (zI_k (by decide))) f_X3_27 (i_Ru ho) rfl dX3_setGrow_12 rfl ?_
  refine z_putI f_X3_41 (i_Ru ho) rfl (Or.inl rfl) rfl rfl dX3_setGrow_15 rfl ?_
  exact z_ret none (Or.inl ⟨rfl, rfl, dX3_setGrow_18⟩) zN200 ⟨rfl, h⟩
theorem dX3_addClause_0 : decode cX3_addClause 0 = .ok (.aload_n 0, 1) := by decide +kernel
theorem dX3_addClause_1 : decode cX3_addClause 1 = .ok (.getfield 35, 3) := by decide +kernel
theorem dX3_addClause_4 : decode cX3_addClause 4 = .ok (.bipush 12, 2) := by decide +kernel
theorem dX3_addClause_6 : decode cX3_addClause 6 = .ok (.if_icmp .ge 46, 3) := by decide +kernel
theorem dX3_addClause_9 : decode cX3_addClause 9 = .ok (.aload_n 0, 1) := by decide +kernel
theorem dX3_addClause_10 : decode cX3_addClause 10 = .ok (.getfield 15, 3) := by decide +kernel
theorem dX3_addClause_13 : decode cX3_addClause 13 = .ok (.aload_n 0, 1) := by decide +kernel
theorem dX3_addClause_14 : decode cX3_addClause 14 = .ok (.getfield 35, 3) := by decide +kernel
theorem dX3_addClause_17 : decode cX3_addClause 17 = .ok (.iload_n 1, 1) := by decide +kernel
theorem dX3_addClause_18 : decode cX3_addClause 18 = .ok (.iastore, 1) := by decide +kernel
theorem dX3_addClause_19 : decode cX3_addClause 19 = .ok (.aload_n 0, 1) := by decide +kernel
theorem dX3_addClause_20 : decode cX3_addClause 20 = .ok (.getfield 18, 3) := by decide +kernel
theorem dX3_addClause_23 : decode cX3_addClause 23 = .ok (.aload_n 0, 1) := by decide +kernel
theorem dX3_addClause_24 : decode cX3_addClause 24 = .ok (.getfield 35, 3) := by decide +kernel
theorem dX3_addClause_27 : decode cX3_addClause 27 = .ok (.iload_n 2, 1) := by decide +kernel
theorem dX3_addClause_28 : decode cX3_addClause 28 = .ok (.iastore, 1) := by decide +kernel
theorem dX3_addClause_29 : decode cX3_addClause 29 = .ok (.aload_n 0, 1) := by decide +kernel
theorem dX3_addClause_30 : decode cX3_addClause 30 = .ok (.getfield 21, 3) := by decide +kernel
theorem dX3_addClause_33 : decode cX3_addClause 33 = .ok (.aload_n 0, 1) := by decide +kernel
theorem dX3_addClause_34 : decode cX3_addClause 34 = .ok (.getfield 35, 3) := by decide +kernel
theorem dX3_addClause_37 : decode cX3_addClause 37 = .ok (.aload_n 0, 1) := by decide +kernel
theorem dX3_addClause_38 : decode cX3_addClause 38 = .ok (.getfield 27, 3) := by decide +kernel
theorem dX3_addClause_41 : decode cX3_addClause 41 = .ok (.iastore, 1) := by decide +kernel
theorem dX3_addClause_42 : decode cX3_addClause 42 = .ok (.aload_n 0, 1) := by decide +kernel
theorem dX3_addClause_43 : decode cX3_addClause 43 = .ok (.dup, 1) := by decide +kernel
theorem dX3_addClause_44 : decode cX3_addClause 44 = .ok (.getfield 35, 3) := by decide +kernel
theorem dX3_addClause_47 : decode cX3_addClause 47 = .ok (.iconst 1, 1) := by decide +kernel
theorem dX3_addClause_48 : decode cX3_addClause 48 = .ok (.iadd, 1) := by decide +kernel
theorem dX3_addClause_49 : decode cX3_addClause 49 = .ok (.putfield 35, 3) := by decide +kernel
theorem dX3_addClause_52 : decode cX3_addClause 52 = .ok (.return_, 1) := by decide +kernel
set_option maxHeartbeats 4000000 in
set_option maxRecDepth 100000 in
theorem t_X3_addClause {l : Launch} {g : zG} {d : Nat} {s : zS} (hR : zRok s) {o : Nat} (ho : o = 79 ∨ o = 85) {p0 : Int32} {p1 : Int32} {K : zS → Prop} (h : (if (12 : Int32) ≤ (s.1 o 5) then K s else (vp_in (s.1 o 5) 12 ∧ (vp_in ((zI s (o + 2) ((s.1 o 5).toNatClampNeg) p0).1 o 5) 12 ∧ (vp_in ((zI (zI s (o + 2) ((s.1 o 5).toNatClampNeg) p0) (o + 3) (((zI s (o + 2) ((s.1 o 5).toNatClampNeg) p0).1 o 5).toNatClampNeg) p1).1 o 5) 12 ∧ K (zI (zI (zI (zI s (o + 2) ((s.1 o 5).toNatClampNeg) p0) (o + 3) (((zI s (o + 2) ((s.1 o 5).toNatClampNeg) p0).1 o 5).toNatClampNeg) p1) (o + 4) (((zI (zI s (o + 2) ((s.1 o 5).toNatClampNeg) p0) (o + 3) (((zI s (o + 2) ((s.1 o 5).toNatClampNeg) p0).1 o 5).toNatClampNeg) p1).1 o 5).toNatClampNeg) ((zI (zI s (o + 2) ((s.1 o 5).toNatClampNeg) p0) (o + 3) (((zI s (o + 2) ((s.1 o 5).toNatClampNeg) p0).1 o 5).toNatClampNeg) p1).1 o 1)) o 5 (((zI (zI (zI s (o + 2) ((s.1 o 5).toNatClampNeg) p0) (o + 3) (((zI s (o + 2) ((s.1 o 5).toNatClampNeg) p0).1 o 5).toNatClampNeg) p1) (o + 4) (((zI (zI s (o + 2) ((s.1 o 5).toNatClampNeg) p0) (o + 3) (((zI s (o + 2) ((s.1 o 5).toNatClampNeg) p0).1 o 5).toNatClampNeg) p1).1 o 5).toNatClampNeg) ((zI (zI s (o + 2) ((s.1 o 5).toNatClampNeg) p0) (o + 3) (((zI s (o + 2) ((s.1 o 5).toNatClampNeg) p0).1 o 5).toNatClampNeg) p1).1 o 1)).1 o 5) + (1 : Int32)))))))) : zc l g d M_X3_addClause [.ref o, .int p0, .int p1] s (zKv K) := by
  refine zCall_of k_X3_addClause (Nat.le_of_ble_eq_true rfl) (Nat.le_refl _) (fun _ => ?_)
  show zt l g d M_X3_addClause 0 [.ref o, .int p0, .int p1] [] s (zKv K)
  refine z_aload_n (i := 0) dX3_addClause_0 rfl rfl rfl ?_
  refine z_getI (x := s.1 o 5) rfl f_X3_35 (i_Ru ho) rfl dX3_addClause_1 rfl ?_
  refine z_bipush (v := (12 : Int32)) dX3_addClause_4 (by decide) rfl ?_
  refine z_icmp_ge (pt := 52) dX3_addClause_6 (by decide) rfl (fun c => ?_) (fun c => ?_)
  · have h := zit h c
    exact z_ret none (Or.inl ⟨rfl, rfl, dX3_addClause_52⟩) zN200 ⟨rfl, h⟩
  · have h := zif h c
    refine z_aload_n (i := 0) dX3_addClause_9 rfl rfl rfl ?_
    refine z_getR (q := o + 2) f_X3_15 (i_Ru ho) rfl (r_Ru2 hR ho) (by omega) dX3_addClause_10 rfl ?_
    refine z_aload_n (i := 0) dX3_addClause_13 rfl rfl rfl ?_
    refine z_getI (x := s.1 o 5) rfl f_X3_35 (i_Ru ho) rfl dX3_addClause_14 rfl ?_
    refine z_iload_n (i := 1) dX3_addClause_17 rfl rfl rfl ?_
    obtain ⟨a1, h⟩ := h
    have wa1 := vin a1
    refine z_iast (a_Ru2 ho) a1 dX3_addClause_18 rfl ?_
    show zt l g d M_X3_addClause 19 [.ref o, .int p0, .int p1] [] (zI s (o + 2) ((s.1 o 5).toNatClampNeg) p0) _
    refine z_aload_n (i := 0) dX3_addClause_19 rfl rfl rfl ?_
    refine z_getR (q := o + 3) f_X3_18 (i_Ru ho) rfl (r_Ru3 hR ho) (by omega) dX3_addClause_20 rfl ?_
    refine z_aload_n (i := 0) dX3_addClause_23 rfl rfl rfl ?_
    refine z_getI (x := (zI s (o + 2) ((s.1 o 5).toNatClampNeg) p0).1 o 5) rfl f_X3_35 (i_Ru ho) rfl dX3_addClause_24 rfl ?_
    refine z_iload_n (i := 2) dX3_addClause_27 rfl rfl rfl ?_
    obtain ⟨a2, h⟩ := h
    have wa2 := vin a2
    refine z_iast (a_Ru3 ho) a2 dX3_addClause_28 rfl ?_
    show zt l g d M_X3_addClause 29 [.ref o, .int p0, .int p1] [] (zI (zI s (o + 2) ((s.1 o 5).toNatClampNeg) p0) (o + 3) (((zI s (o + 2) ((s.1 o 5).toNatClampNeg) p0).1 o 5).toNatClampNeg) p1) _
    refine z_aload_n (i := 0) dX3_addClause_29 rfl rfl rfl ?_
    refine z_getR (q := o + 4) f_X3_21 (i_Ru ho) rfl (r_Ru4 hR ho) (by omega) dX3_addClause_30 rfl ?_
    refine z_aload_n (i := 0) dX3_addClause_33 rfl rfl rfl ?_
    refine z_getI (x := (zI (zI s (o + 2) ((s.1 o 5).toNatClampNeg) p0) (o + 3) (((zI s (o + 2) ((s.1 o 5).toNatClampNeg) p0).1 o 5).toNatClampNeg) p1).1 o 5) rfl f_X3_35 (i_Ru ho) rfl dX3_addClause_34 rfl ?_
    refine z_aload_n (i := 0) dX3_addClause_37 rfl rfl rfl ?_
    refine z_getI (x := (zI (zI s (o + 2) ((s.1 o 5).toNatClampNeg) p0) (o + 3) (((zI s (o + 2) ((s.1 o 5).toNatClampNeg) p0).1 o 5).toNatClampNeg) p1).1 o 1) rfl f_X3_27 (i_Ru ho) rfl dX3_addClause_38 rfl ?_
    obtain ⟨a3, h⟩ := h
    have wa3 := vin a3
    refine z_iast (a_Ru4 ho) a3 dX3_addClause_41 rfl ?_
    show zt l g d M_X3_addClause 42 [.ref o, .int p0, .int p1] [] (zI (zI (zI s (o + 2) ((s.1 o 5).toNatClampNeg) p0) (o + 3) (((zI s (o + 2) ((s.1 o 5).toNatClampNeg) p0).1 o 5).toNatClampNeg) p1) (o + 4) (((zI (zI s (o + 2) ((s.1 o 5).toNatClampNeg) p0) (o + 3) (((zI s (o + 2) ((s.1 o 5).toNatClampNeg) p0).1 o 5).toNatClampNeg) p1).1 o 5).toNatClampNeg) ((zI (zI s (o + 2) ((s.1 o 5).toNatClampNeg) p0) (o + 3) (((zI s (o + 2) ((s.1 o 5).toNatClampNeg) p0).1 o 5).toNatClampNeg) p1).1 o 1)) _
    refine z_aload_n (i := 0) dX3_addClause_42 rfl rfl rfl ?_
    refine z_dup dX3_addClause_43 rfl rfl ?_
    refine z_getI (x := (zI (zI (zI s (o + 2) ((s.1 o 5).toNatClampNeg) p0) (o + 3) (((zI s (o + 2) ((s.1 o 5).toNatClampNeg) p0).1 o 5).toNatClampNeg) p1) (o + 4) (((zI (zI s (o + 2) ((s.1 o 5).toNatClampNeg) p0) (o + 3) (((zI s (o + 2) ((s.1 o 5).toNatClampNeg) p0).1 o 5).toNatClampNeg) p1).1 o 5).toNatClampNeg) ((zI (zI s (o + 2) ((s.1 o 5).toNatClampNeg) p0) (o + 3) (((zI s (o + 2) ((s.1 o 5).toNatClampNeg) p0).1 o 5).toNatClampNeg) p1).1 o 1)).1 o 5) rfl f_X3_35 (i_Ru ho) rfl dX3_addClause_44 rfl ?_
    refine z_iconst (v := (1 : Int32)) dX3_addClause_47 (by decide) rfl ?_
    refine z_iadd dX3_addClause_48 rfl ?_
    refine z_putI f_X3_35 (i_Ru ho) rfl (Or.inl rfl) rfl rfl dX3_addClause_49 rfl ?_
    exact z_ret none (Or.inl ⟨rfl, rfl, dX3_addClause_52⟩) zN200 ⟨rfl, h⟩
theorem dX3_firstHolding_0 : decode cX3_firstHolding 0 = .ok (.iconst 0, 1) := by decide +kernel
theorem dX3_firstHolding_1 : decode cX3_firstHolding 1 = .ok (.istore_n 2, 1) := by decide +kernel
theorem dX3_firstHolding_2 : decode cX3_firstHolding 2 = .ok (.iload_n 2, 1) := by decide +kernel
theorem dX3_firstHolding_3 : decode cX3_firstHolding 3 = .ok (.aload_n 0, 1) := by decide +kernel
theorem dX3_firstHolding_4 : decode cX3_firstHolding 4 = .ok (.getfield 35, 3) := by decide +kernel
theorem dX3_firstHolding_7 : decode cX3_firstHolding 7 = .ok (.if_icmp .ge 32, 3) := by decide +kernel
theorem dX3_firstHolding_10 : decode cX3_firstHolding 10 = .ok (.aload_n 0, 1) := by decide +kernel
theorem dX3_firstHolding_11 : decode cX3_firstHolding 11 = .ok (.aload_n 0, 1) := by decide +kernel
theorem dX3_firstHolding_12 : decode cX3_firstHolding 12 = .ok (.getfield 18, 3) := by decide +kernel
theorem dX3_firstHolding_15 : decode cX3_firstHolding 15 = .ok (.iload_n 2, 1) := by decide +kernel
theorem dX3_firstHolding_16 : decode cX3_firstHolding 16 = .ok (.iaload, 1) := by decide +kernel
theorem dX3_firstHolding_17 : decode cX3_firstHolding 17 = .ok (.aload_n 0, 1) := by decide +kernel
theorem dX3_firstHolding_18 : decode cX3_firstHolding 18 = .ok (.getfield 21, 3) := by decide +kernel
theorem dX3_firstHolding_21 : decode cX3_firstHolding 21 = .ok (.iload_n 2, 1) := by decide +kernel
theorem dX3_firstHolding_22 : decode cX3_firstHolding 22 = .ok (.iaload, 1) := by decide +kernel
theorem dX3_firstHolding_23 : decode cX3_firstHolding 23 = .ok (.aload_n 1, 1) := by decide +kernel
theorem dX3_firstHolding_24 : decode cX3_firstHolding 24 = .ok (.invokevirtual 44, 3) := by decide +kernel
theorem dX3_firstHolding_27 : decode cX3_firstHolding 27 = .ok (.iconst 1, 1) := by decide +kernel
theorem dX3_firstHolding_28 : decode cX3_firstHolding 28 = .ok (.if_icmp .ne 5, 3) := by decide +kernel
theorem dX3_firstHolding_31 : decode cX3_firstHolding 31 = .ok (.iload_n 2, 1) := by decide +kernel
theorem dX3_firstHolding_32 : decode cX3_firstHolding 32 = .ok (.ireturn, 1) := by decide +kernel
theorem dX3_firstHolding_33 : decode cX3_firstHolding 33 = .ok (.iinc 2 1, 3) := by decide +kernel
theorem dX3_firstHolding_36 : decode cX3_firstHolding 36 = .ok (.goto (-34), 3) := by decide +kernel
theorem dX3_firstHolding_39 : decode cX3_firstHolding 39 = .ok (.iconst (-1), 1) := by decide +kernel
theorem dX3_firstHolding_40 : decode cX3_firstHolding 40 = .ok (.ireturn, 1) := by decide +kernel
set_option maxHeartbeats 4000000 in
set_option maxRecDepth 100000 in
theorem t_X3_firstHolding {l : Launch} {g : zG} {d : Nat} {s : zS} (hR : zRok s) {o : Nat} (ho : o = 79 ∨ o = 85) {K : Int32 → zS → Prop} (h : zt l g (d + 1) M_X3_firstHolding 2 [.ref o, .ref 91, .int (0 : Int32)] [] s (zKi K)) : zc l g (d + 1) M_X3_firstHolding [.ref o, .ref 91] s (zKi K) := by
  refine zCall_of k_X3_firstHolding (Nat.le_of_ble_eq_true rfl) (Nat.le_refl _) (fun _ => ?_)
  show zt l g (d + 1) M_X3_firstHolding 0 [.ref o, .ref 91, zJ] [] s (zKi K)
  refine z_iconst (v := (0 : Int32)) dX3_firstHolding_0 (by decide) rfl ?_
  refine z_istore_n (i := 2) dX3_firstHolding_1 rfl (by decide) (zokd rfl) rfl ?_
  show zt l g (d + 1) M_X3_firstHolding 2 [.ref o, .ref 91, .int (0 : Int32)] [] s _
  exact h
set_option maxHeartbeats 4000000 in
set_option maxRecDepth 100000 in
theorem t_X3_firstHolding_2 {l : Launch} {g : zG} {d : Nat} {s : zS} (hR : zRok s) {x0 : Nat} (hx0 : x0 = 79 ∨ x0 = 85) {x2 : Int32} {K : Int32 → zS → Prop} (h : (if (s.1 x0 5) ≤ x2 then K (-1 : Int32) s else (vp_in x2 12 ∧ (vp_in x2 12 ∧ (zc l g d M_X3_valueOf [.ref x0, .int (s.1 (x0 + 3) x2.toNatClampNeg), .int (s.1 (x0 + 4) x2.toNatClampNeg), .ref 91] s (zKi (fun r4 s3 => s3.2.2.1 = s.2.2.1 ∧ (if r4 = (1 : Int32) then K x2 s3 else zt l g (d + 1) M_X3_firstHolding 2 [.ref x0, .ref 91, .int (x2 + (1 : Int32))] [] s3 (zKi K))))))))) : zt l g (d + 1) M_X3_firstHolding 2 [.ref x0, .ref 91, .int x2] [] s (zKi K) := by
  refine z_iload_n (i := 2) dX3_firstHolding_2 rfl rfl rfl ?_
  refine z_aload_n (i := 0) dX3_firstHolding_3 rfl rfl rfl ?_
  refine z_getI (x := s.1 x0 5) rfl f_X3_35 (i_Ru hx0) rfl dX3_firstHolding_4 rfl ?_
  refine z_icmp_ge (pt := 39) dX3_firstHolding_7 (by decide) rfl (fun c => ?_) (fun c => ?_)
  · have h := zit h c
    refine z_iconst (v := (-1 : Int32)) dX3_firstHolding_39 (by decide) rfl ?_
    exact z_ret (some (.int (-1 : Int32))) (Or.inr (Or.inl ⟨_, _, rfl, rfl, rfl, dX3_firstHolding_40⟩)) zN200 ⟨_, rfl, h⟩
  · have h := zif h c
    refine z_aload_n (i := 0) dX3_firstHolding_10 rfl rfl rfl ?_
    refine z_aload_n (i := 0) dX3_firstHolding_11 rfl rfl rfl ?_
    refine z_getR (q := x0 + 3) f_X3_18 (i_Ru hx0) rfl (r_Ru3 hR hx0) (by omega) dX3_firstHolding_12 rfl ?_
    refine z_iload_n (i := 2) dX3_firstHolding_15 rfl rfl rfl ?_
    obtain ⟨a1, h⟩ := h
    have wa1 := vin a1
    refine z_iald (x := s.1 (x0 + 3) x2.toNatClampNeg) rfl (a_Ru3 hx0) a1 dX3_firstHolding_16 rfl ?_
    refine z_aload_n (i := 0) dX3_firstHolding_17 rfl rfl rfl ?_
    refine z_getR (q := x0 + 4) f_X3_21 (i_Ru hx0) rfl (r_Ru4 hR hx0) (by omega) dX3_firstHolding_18 rfl ?_
    refine z_iload_n (i := 2) dX3_firstHolding_21 rfl rfl rfl ?_
    obtain ⟨a2, h⟩ := h
    have wa2 := vin a2
    refine z_iald (x := s.1 (x0 + 4) x2.toNatClampNeg) rfl (a_Ru4 hx0) a2 dX3_firstHolding_22 rfl ?_
    refine z_aload_n (i := 1) dX3_firstHolding_23 rfl rfl rfl ?_
    refine z_callV k_X3_valueOf m_X3_44 (zRec_of (i_Ru hx0)) rfl h rfl (Nat.le_of_ble_eq_true rfl) dX3_firstHolding_24 zy200 rfl ?_
    rintro v s3 ⟨r4, rfl, hRs3, h⟩
    show zt l g (d + 1) M_X3_firstHolding 27 [.ref x0, .ref 91, .int x2] [.int r4] s3 _
    refine z_iconst (v := (1 : Int32)) dX3_firstHolding_27 (by decide) rfl ?_
    refine z_icmp_ne (pt := 33) dX3_firstHolding_28 (by decide) rfl (fun c => ?_) (fun c => ?_)
    · have h := zif h c
      refine z_iinc (v := x2 + (1 : Int32)) dX3_firstHolding_33 rfl rfl (by decide) (zokd rfl) rfl ?_
      show zt l g (d + 1) M_X3_firstHolding 36 [.ref x0, .ref 91, .int (x2 + (1 : Int32))] [] s3 _
      refine z_goto (pn := 2) dX3_firstHolding_36 (by decide) ?_
      exact h
    · have h := zit h c
      refine z_iload_n (i := 2) dX3_firstHolding_31 rfl rfl rfl ?_
      exact z_ret (some (.int x2)) (Or.inr (Or.inl ⟨_, _, rfl, rfl, rfl, dX3_firstHolding_32⟩)) zN200 ⟨_, rfl, h⟩
theorem dX3_valueOf_0 : decode cX3_valueOf 0 = .ok (.iconst 0, 1) := by decide +kernel
theorem dX3_valueOf_1 : decode cX3_valueOf 1 = .ok (.istore 4, 2) := by decide +kernel
theorem dX3_valueOf_3 : decode cX3_valueOf 3 = .ok (.iload_n 1, 1) := by decide +kernel
theorem dX3_valueOf_4 : decode cX3_valueOf 4 = .ok (.istore 5, 2) := by decide +kernel
theorem dX3_valueOf_6 : decode cX3_valueOf 6 = .ok (.iload 5, 2) := by decide +kernel
theorem dX3_valueOf_8 : decode cX3_valueOf 8 = .ok (.iload_n 2, 1) := by decide +kernel
theorem dX3_valueOf_9 : decode cX3_valueOf 9 = .ok (.if_icmp .ge 134, 3) := by decide +kernel
theorem dX3_valueOf_12 : decode cX3_valueOf 12 = .ok (.iload 5, 2) := by decide +kernel
theorem dX3_valueOf_14 : decode cX3_valueOf 14 = .ok (.sipush 400, 3) := by decide +kernel
theorem dX3_valueOf_17 : decode cX3_valueOf 17 = .ok (.if_icmp .ge 126, 3) := by decide +kernel
theorem dX3_valueOf_20 : decode cX3_valueOf 20 = .ok (.aload_n 0, 1) := by decide +kernel
theorem dX3_valueOf_21 : decode cX3_valueOf 21 = .ok (.getfield 9, 3) := by decide +kernel
theorem dX3_valueOf_24 : decode cX3_valueOf 24 = .ok (.iload 5, 2) := by decide +kernel
theorem dX3_valueOf_26 : decode cX3_valueOf 26 = .ok (.iaload, 1) := by decide +kernel
theorem dX3_valueOf_27 : decode cX3_valueOf 27 = .ok (.istore 6, 2) := by decide +kernel
theorem dX3_valueOf_29 : decode cX3_valueOf 29 = .ok (.iload 6, 2) := by decide +kernel
theorem dX3_valueOf_31 : decode cX3_valueOf 31 = .ok (.sipush 10011, 3) := by decide +kernel
theorem dX3_valueOf_34 : decode cX3_valueOf 34 = .ok (.isub, 1) := by decide +kernel
theorem dX3_valueOf_35 : decode cX3_valueOf 35 = .ok (.istore 7, 2) := by decide +kernel
theorem dX3_valueOf_37 : decode cX3_valueOf 37 = .ok (.iload 6, 2) := by decide +kernel
theorem dX3_valueOf_39 : decode cX3_valueOf 39 = .ok (.sipush 9999, 3) := by decide +kernel
theorem dX3_valueOf_42 : decode cX3_valueOf 42 = .ok (.if_icmp .le 52, 3) := by decide +kernel
theorem dX3_valueOf_45 : decode cX3_valueOf 45 = .ok (.iload 7, 2) := by decide +kernel
theorem dX3_valueOf_47 : decode cX3_valueOf 47 = .ok (.ifCond .lt 10, 3) := by decide +kernel
theorem dX3_valueOf_50 : decode cX3_valueOf 50 = .ok (.iload 7, 2) := by decide +kernel
theorem dX3_valueOf_52 : decode cX3_valueOf 52 = .ok (.bipush 7, 2) := by decide +kernel
theorem dX3_valueOf_54 : decode cX3_valueOf 54 = .ok (.if_icmp .lt 40, 3) := by decide +kernel
theorem dX3_valueOf_57 : decode cX3_valueOf 57 = .ok (.iload 4, 2) := by decide +kernel
theorem dX3_valueOf_59 : decode cX3_valueOf 59 = .ok (.iconst 2, 1) := by decide +kernel
theorem dX3_valueOf_60 : decode cX3_valueOf 60 = .ok (.if_icmp .ge 5, 3) := by decide +kernel
theorem dX3_valueOf_63 : decode cX3_valueOf 63 = .ok (.iconst 0, 1) := by decide +kernel
theorem dX3_valueOf_64 : decode cX3_valueOf 64 = .ok (.ireturn, 1) := by decide +kernel
theorem dX3_valueOf_65 : decode cX3_valueOf 65 = .ok (.iinc 4 (-2), 3) := by decide +kernel
theorem dX3_valueOf_68 : decode cX3_valueOf 68 = .ok (.iload 6, 2) := by decide +kernel
theorem dX3_valueOf_70 : decode cX3_valueOf 70 = .ok (.aload_n 0, 1) := by decide +kernel
theorem dX3_valueOf_71 : decode cX3_valueOf 71 = .ok (.getfield 24, 3) := by decide +kernel
theorem dX3_valueOf_74 : decode cX3_valueOf 74 = .ok (.iload 4, 2) := by decide +kernel
theorem dX3_valueOf_76 : decode cX3_valueOf 76 = .ok (.iaload, 1) := by decide +kernel
theorem dX3_valueOf_77 : decode cX3_valueOf 77 = .ok (.aload_n 0, 1) := by decide +kernel
theorem dX3_valueOf_78 : decode cX3_valueOf 78 = .ok (.getfield 24, 3) := by decide +kernel
theorem dX3_valueOf_81 : decode cX3_valueOf 81 = .ok (.iload 4, 2) := by decide +kernel
theorem dX3_valueOf_83 : decode cX3_valueOf 83 = .ok (.iconst 1, 1) := by decide +kernel
theorem dX3_valueOf_84 : decode cX3_valueOf 84 = .ok (.iadd, 1) := by decide +kernel
theorem dX3_valueOf_85 : decode cX3_valueOf 85 = .ok (.iaload, 1) := by decide +kernel
theorem dX3_valueOf_86 : decode cX3_valueOf 86 = .ok (.invokestatic 48, 3) := by decide +kernel
theorem dX3_valueOf_89 : decode cX3_valueOf 89 = .ok (.istore 7, 2) := by decide +kernel
theorem dX3_valueOf_91 : decode cX3_valueOf 91 = .ok (.goto 22, 3) := by decide +kernel
theorem dX3_valueOf_94 : decode cX3_valueOf 94 = .ok (.iload 6, 2) := by decide +kernel
theorem dX3_valueOf_96 : decode cX3_valueOf 96 = .ok (.sipush 9999, 3) := by decide +kernel
theorem dX3_valueOf_99 : decode cX3_valueOf 99 = .ok (.if_icmp .le 10, 3) := by decide +kernel
theorem dX3_valueOf_102 : decode cX3_valueOf 102 = .ok (.aload_n 3, 1) := by decide +kernel
theorem dX3_valueOf_103 : decode cX3_valueOf 103 = .ok (.iload 7, 2) := by decide +kernel
theorem dX3_valueOf_105 : decode cX3_valueOf 105 = .ok (.iaload, 1) := by decide +kernel
theorem dX3_valueOf_106 : decode cX3_valueOf 106 = .ok (.goto 5, 3) := by decide +kernel
theorem dX3_valueOf_109 : decode cX3_valueOf 109 = .ok (.iload 6, 2) := by decide +kernel
theorem dX3_valueOf_111 : decode cX3_valueOf 111 = .ok (.istore 7, 2) := by decide +kernel
theorem dX3_valueOf_113 : decode cX3_valueOf 113 = .ok (.iload 4, 2) := by decide +kernel
theorem dX3_valueOf_115 : decode cX3_valueOf 115 = .ok (.aload_n 0, 1) := by decide +kernel
theorem dX3_valueOf_116 : decode cX3_valueOf 116 = .ok (.getfield 24, 3) := by decide +kernel
theorem dX3_valueOf_119 : decode cX3_valueOf 119 = .ok (.arraylength, 1) := by decide +kernel
theorem dX3_valueOf_120 : decode cX3_valueOf 120 = .ok (.if_icmp .lt 5, 3) := by decide +kernel
theorem dX3_valueOf_123 : decode cX3_valueOf 123 = .ok (.iconst 0, 1) := by decide +kernel
theorem dX3_valueOf_124 : decode cX3_valueOf 124 = .ok (.ireturn, 1) := by decide +kernel
theorem dX3_valueOf_125 : decode cX3_valueOf 125 = .ok (.aload_n 0, 1) := by decide +kernel
theorem dX3_valueOf_126 : decode cX3_valueOf 126 = .ok (.getfield 24, 3) := by decide +kernel
theorem dX3_valueOf_129 : decode cX3_valueOf 129 = .ok (.iload 4, 2) := by decide +kernel
theorem dX3_valueOf_131 : decode cX3_valueOf 131 = .ok (.iload 7, 2) := by decide +kernel
theorem dX3_valueOf_133 : decode cX3_valueOf 133 = .ok (.iastore, 1) := by decide +kernel
theorem dX3_valueOf_134 : decode cX3_valueOf 134 = .ok (.iinc 4 1, 3) := by decide +kernel
theorem dX3_valueOf_137 : decode cX3_valueOf 137 = .ok (.iinc 5 1, 3) := by decide +kernel
theorem dX3_valueOf_140 : decode cX3_valueOf 140 = .ok (.goto (-134), 3) := by decide +kernel
theorem dX3_valueOf_143 : decode cX3_valueOf 143 = .ok (.iload 4, 2) := by decide +kernel
theorem dX3_valueOf_145 : decode cX3_valueOf 145 = .ok (.iconst 1, 1) := by decide +kernel
theorem dX3_valueOf_146 : decode cX3_valueOf 146 = .ok (.if_icmp .ne 12, 3) := by decide +kernel
theorem dX3_valueOf_149 : decode cX3_valueOf 149 = .ok (.aload_n 0, 1) := by decide +kernel
theorem dX3_valueOf_150 : decode cX3_valueOf 150 = .ok (.getfield 24, 3) := by decide +kernel
theorem dX3_valueOf_153 : decode cX3_valueOf 153 = .ok (.iconst 0, 1) := by decide +kernel
theorem dX3_valueOf_154 : decode cX3_valueOf 154 = .ok (.iaload, 1) := by decide +kernel
theorem dX3_valueOf_155 : decode cX3_valueOf 155 = .ok (.goto 4, 3) := by decide +kernel
theorem dX3_valueOf_158 : decode cX3_valueOf 158 = .ok (.iconst 0, 1) := by decide +kernel
theorem dX3_valueOf_159 : decode cX3_valueOf 159 = .ok (.ireturn, 1) := by decide +kernel
set_option maxHeartbeats 4000000 in
set_option maxRecDepth 100000 in
theorem t_X3_valueOf {l : Launch} {g : zG} {d : Nat} {s : zS} (hR : zRok s) {o : Nat} (ho : o = 79 ∨ o = 85) {p0 : Int32} {p1 : Int32} {K : Int32 → zS → Prop} (h : zt l g (d + 1) M_X3_valueOf 6 [.ref o, zJ, .int p1, .ref 91, .int (0 : Int32), .int p0, zJ, zJ] [] s (zKi K)) : zc l g (d + 1) M_X3_valueOf [.ref o, .int p0, .int p1, .ref 91] s (zKi K) := by
  refine zCall_of k_X3_valueOf (Nat.le_of_ble_eq_true rfl) (Nat.le_refl _) (fun _ => ?_)
  show zt l g (d + 1) M_X3_valueOf 0 [.ref o, .int p0, .int p1, .ref 91, zJ, zJ, zJ, zJ] [] s (zKi K)
  refine z_iconst (v := (0 : Int32)) dX3_valueOf_0 (by decide) rfl ?_
  refine z_istore dX3_valueOf_1 (by decide) (zokd rfl) rfl ?_
  show zt l g (d + 1) M_X3_valueOf 3 [.ref o, .int p0, .int p1, .ref 91, .int (0 : Int32), zJ, zJ, zJ] [] s _
  refine z_iload_n (i := 1) dX3_valueOf_3 rfl rfl rfl ?_
  refine z_istore dX3_valueOf_4 (by decide) (zokd rfl) rfl ?_
  show zt l g (d + 1) M_X3_valueOf 6 [.ref o, .int p0, .int p1, .ref 91, .int (0 : Int32), .int p0, zJ, zJ] [] s _
  refine z_wk (ls' := [.ref o, zJ, .int p1, .ref 91, .int (0 : Int32), .int p0, zJ, zJ]) ⟨Or.inr rfl, Or.inl rfl, Or.inr rfl, Or.inr rfl, Or.inr rfl, Or.inr rfl, Or.inr rfl, Or.inr rfl, trivial⟩ ?_
  exact h
set_option maxHeartbeats 4000000 in
set_option maxRecDepth 100000 in
theorem t_X3_valueOf_6 {l : Launch} {g : zG} {d : Nat} {s : zS} (hR : zRok s) {x0 : Nat} (hx0 : x0 = 79 ∨ x0 = 85) {x2 : Int32} {x4 : Int32} {x5 : Int32} {K : Int32 → zS → Prop} (h : (if x2 ≤ x5 then (if x4 = (1 : Int32) then K (s.1 (x0 + 5) 0) s else K (0 : Int32) s) else (if (400 : Int32) ≤ x5 then (if x4 = (1 : Int32) then K (s.1 (x0 + 5) 0) s else K (0 : Int32) s) else (vp_in x5 400 ∧ (∀ v2 : Int32, v2 = s.1 (x0 + 1) x5.toNatClampNeg → (if v2 ≤ (9999 : Int32) then (if v2 ≤ (9999 : Int32) then (if x4 < (24 : Int32) then (vp_in x4 24 ∧ zt l g (d + 1) M_X3_valueOf 6 [.ref x0, zJ, .int x2, .ref 91, .int (x4 + (1 : Int32)), .int (x5 + (1 : Int32)), zJ, zJ] [] (zI s (x0 + 5) x4.toNatClampNeg v2) (zKi K)) else K (0 : Int32) s) else (vp_in (v2 - (10011 : Int32)) 7 ∧ (∀ v5 : Int32, v5 = s.1 91 ((v2 - (10011 : Int32)).toNatClampNeg) → (if x4 < (24 : Int32) then (vp_in x4 24 ∧ zt l g (d + 1) M_X3_valueOf 6 [.ref x0, zJ, .int x2, .ref 91, .int (x4 + (1 : Int32)), .int (x5 + (1 : Int32)), zJ, zJ] [] (zI s (x0 + 5) x4.toNatClampNeg v5) (zKi K)) else K (0 : Int32) s)))) else (if (v2 - (10011 : Int32)) < 0 then (if (2 : Int32) ≤ x4 then (vp_in (x4 - (2 : Int32)) 24 ∧ (vp_in ((x4 - (2 : Int32)) + (1 : Int32)) 24 ∧ (zc l g d M_X3_joinedBy [.int v2, .int (s.1 (x0 + 5) ((x4 - (2 : Int32)).toNatClampNeg)), .int (s.1 (x0 + 5) (((x4 - (2 : Int32)) + (1 : Int32)).toNatClampNeg))] s (zKi (fun r10 s9 => s9.2.2.1 = s.2.2.1 ∧ (if (x4 - (2 : Int32)) < (24 : Int32) then (vp_in (x4 - (2 : Int32)) 24 ∧ zt l g (d + 1) M_X3_valueOf 6 [.ref x0, zJ, .int x2, .ref 91, .int ((x4 - (2 : Int32)) + (1 : Int32)), .int (x5 + (1 : Int32)), zJ, zJ] [] (zI s9 (x0 + 5) ((x4 - (2 : Int32)).toNatClampNeg) r10) (zKi K)) else K (0 : Int32) s9)))))) else K (0 : Int32) s) else (if (v2 - (10011 : Int32)) < (7 : Int32) then (if v2 ≤ (9999 : Int32) then (if x4 < (24 : Int32) then (vp_in x4 24 ∧ zt l g (d + 1) M_X3_valueOf 6 [.ref x0, zJ, .int x2, .ref 91, .int (x4 + (1 : Int32)), .int (x5 + (1 : Int32)), zJ, zJ] [] (zI s (x0 + 5) x4.toNatClampNeg v2) (zKi K)) else K (0 : Int32) s) else (vp_in (v2 - (10011 : Int32)) 7 ∧ (∀ v14 : Int32, v14 = s.1 91 ((v2 - (10011 : Int32)).toNatClampNeg) → (if x4 < (24 : Int32) then (vp_in x4 24 ∧ zt l g (d + 1) M_X3_valueOf 6 [.ref x0, zJ, .int x2, .ref 91, .int (x4 + (1 : Int32)), .int (x5 + (1 : Int32)), zJ, zJ] [] (zI s (x0 + 5) x4.toNatClampNeg v14) (zKi K)) else K (0 : Int32) s)))) else (if (2 : Int32) ≤ x4 then (vp_in (x4 - (2 : Int32)) 24 ∧ (vp_in ((x4 - (2 : Int32)) + (1 : Int32)) 24 ∧ (zc l g d M_X3_joinedBy [.int v2, .int (s.1 (x0 + 5) ((x4 - (2 : Int32)).toNatClampNeg)), .int (s.1 (x0 + 5) (((x4 - (2 : Int32)) + (1 : Int32)).toNatClampNeg))] s (zKi (fun r19 s18 => s18.2.2.1 = s.2.2.1 ∧ (if (x4 - (2 : Int32)) < (24 : Int32) then (vp_in (x4 - (2 : Int32)) 24 ∧ zt l g (d + 1) M_X3_valueOf 6 [.ref x0, zJ, .int x2, .ref 91, .int ((x4 - (2 : Int32)) + (1 : Int32)), .int (x5 + (1 : Int32)), zJ, zJ] [] (zI s18 (x0 + 5) ((x4 - (2 : Int32)).toNatClampNeg) r19) (zKi K)) else K (0 : Int32) s18)))))) else K (0 : Int32) s))))))))) : zt l g (d + 1) M_X3_valueOf 6 [.ref x0, zJ, .int x2, .ref 91, .int x4, .int x5, zJ, zJ] [] s (zKi K) := by
  refine z_iload dX3_valueOf_6 rfl rfl ?_
  refine z_iload_n (i := 2) dX3_valueOf_8 rfl rfl rfl ?_
  refine z_icmp_ge (pt := 143) dX3_valueOf_9 (by decide) rfl (fun c => ?_) (fun c => ?_)
  · have h := zit h c
    refine z_iload dX3_valueOf_143 rfl rfl ?_
    refine z_iconst (v := (1 : Int32)) dX3_valueOf_145 (by decide) rfl ?_
    refine z_icmp_ne (pt := 158) dX3_valueOf_146 (by decide) rfl (fun c => ?_) (fun c => ?_)
    · have h := zif h c
      refine z_iconst (v := (0 : Int32)) dX3_valueOf_158 (by decide) rfl ?_
      exact z_ret (some (.int (0 : Int32))) (Or.inr (Or.inl ⟨_, _, rfl, rfl, rfl, dX3_valueOf_159⟩)) zN200 ⟨_, rfl, h⟩
    · have h := zit h c
      refine z_aload_n (i := 0) dX3_valueOf_149 rfl rfl rfl ?_
      refine z_getR (q := x0 + 5) f_X3_24 (i_Ru hx0) rfl (r_Ru5 hR hx0) (by omega) dX3_valueOf_150 rfl ?_
      refine z_iconst (v := (0 : Int32)) dX3_valueOf_153 (by decide) rfl ?_
      refine z_iald (x := s.1 (x0 + 5) 0) rfl (a_Ru5 hx0) (by unfold vp_in; decide) dX3_valueOf_154 rfl ?_
      refine z_goto (pn := 159) dX3_valueOf_155 (by decide) ?_
      exact z_ret (some (.int (s.1 (x0 + 5) 0))) (Or.inr (Or.inl ⟨_, _, rfl, rfl, rfl, dX3_valueOf_159⟩)) zN200 ⟨_, rfl, h⟩
  · have h := zif h c
    refine z_iload dX3_valueOf_12 rfl rfl ?_
    refine z_sipush (v := (400 : Int32)) dX3_valueOf_14 (by decide) rfl ?_
    refine z_icmp_ge (pt := 143) dX3_valueOf_17 (by decide) rfl (fun c => ?_) (fun c => ?_)
    · have h := zit h c
      refine z_iload dX3_valueOf_143 rfl rfl ?_
      refine z_iconst (v := (1 : Int32)) dX3_valueOf_145 (by decide) rfl ?_
      refine z_icmp_ne (pt := 158) dX3_valueOf_146 (by decide) rfl (fun c => ?_) (fun c => ?_)
      · have h := zif h c
        refine z_iconst (v := (0 : Int32)) dX3_valueOf_158 (by decide) rfl ?_
        exact z_ret (some (.int (0 : Int32))) (Or.inr (Or.inl ⟨_, _, rfl, rfl, rfl, dX3_valueOf_159⟩)) zN200 ⟨_, rfl, h⟩
      · have h := zit h c
        refine z_aload_n (i := 0) dX3_valueOf_149 rfl rfl rfl ?_
        refine z_getR (q := x0 + 5) f_X3_24 (i_Ru hx0) rfl (r_Ru5 hR hx0) (by omega) dX3_valueOf_150 rfl ?_
        refine z_iconst (v := (0 : Int32)) dX3_valueOf_153 (by decide) rfl ?_
        refine z_iald (x := s.1 (x0 + 5) 0) rfl (a_Ru5 hx0) (by unfold vp_in; decide) dX3_valueOf_154 rfl ?_
        refine z_goto (pn := 159) dX3_valueOf_155 (by decide) ?_
        exact z_ret (some (.int (s.1 (x0 + 5) 0))) (Or.inr (Or.inl ⟨_, _, rfl, rfl, rfl, dX3_valueOf_159⟩)) zN200 ⟨_, rfl, h⟩
    · have h := zif h c
      refine z_aload_n (i := 0) dX3_valueOf_20 rfl rfl rfl ?_
      refine z_getR (q := x0 + 1) f_X3_9 (i_Ru hx0) rfl (r_Ru1 hR hx0) (by omega) dX3_valueOf_21 rfl ?_
      refine z_iload dX3_valueOf_24 rfl rfl ?_
      obtain ⟨a1, h⟩ := h
      have wa1 := vin a1
      refine z_iald (x := s.1 (x0 + 1) x5.toNatClampNeg) rfl (a_Ru1 hx0) a1 dX3_valueOf_26 rfl ?_
      refine z_istore dX3_valueOf_27 (by decide) (zokd rfl) rfl ?_
      obtain ⟨v2, ev2⟩ : ∃ x : Int32, x = s.1 (x0 + 1) x5.toNatClampNeg := ⟨_, rfl⟩
      rw [← ev2]
      have h := h v2 ev2
      show zt l g (d + 1) M_X3_valueOf 29 [.ref x0, zJ, .int x2, .ref 91, .int x4, .int x5, .int v2, zJ] [] s _
      refine z_iload dX3_valueOf_29 rfl rfl ?_
      refine z_sipush (v := (10011 : Int32)) dX3_valueOf_31 (by decide) rfl ?_
      refine z_isub dX3_valueOf_34 rfl ?_
      refine z_istore dX3_valueOf_35 (by decide) (zokd rfl) rfl ?_
      show zt l g (d + 1) M_X3_valueOf 37 [.ref x0, zJ, .int x2, .ref 91, .int x4, .int x5, .int v2, .int (v2 - (10011 : Int32))] [] s _
      refine z_iload dX3_valueOf_37 rfl rfl ?_
      refine z_sipush (v := (9999 : Int32)) dX3_valueOf_39 (by decide) rfl ?_
      refine z_icmp_le (pt := 94) dX3_valueOf_42 (by decide) rfl (fun c => ?_) (fun c => ?_)
      · have h := zit h c
        refine z_iload dX3_valueOf_94 rfl rfl ?_
        refine z_sipush (v := (9999 : Int32)) dX3_valueOf_96 (by decide) rfl ?_
        refine z_icmp_le (pt := 109) dX3_valueOf_99 (by decide) rfl (fun c => ?_) (fun c => ?_)
        · have h := zit h c
          refine z_iload dX3_valueOf_109 rfl rfl ?_
          refine z_istore dX3_valueOf_111 (by decide) (zokd rfl) rfl ?_
          show zt l g (d + 1) M_X3_valueOf 113 [.ref x0, zJ, .int x2, .ref 91, .int x4, .int x5, .int v2, .int v2] [] s _
          refine z_iload dX3_valueOf_113 rfl rfl ?_
          refine z_aload_n (i := 0) dX3_valueOf_115 rfl rfl rfl ?_
          refine z_getR (q := x0 + 5) f_X3_24 (i_Ru hx0) rfl (r_Ru5 hR hx0) (by omega) dX3_valueOf_116 rfl ?_
          refine z_alen (v := 24) (by decide) (a_Ru5 hx0) (by decide) dX3_valueOf_119 rfl ?_
          refine z_icmp_lt (pt := 125) dX3_valueOf_120 (by decide) rfl (fun c => ?_) (fun c => ?_)
          · have h := zit h c
            refine z_aload_n (i := 0) dX3_valueOf_125 rfl rfl rfl ?_
            refine z_getR (q := x0 + 5) f_X3_24 (i_Ru hx0) rfl (r_Ru5 hR hx0) (by omega) dX3_valueOf_126 rfl ?_
            refine z_iload dX3_valueOf_129 rfl rfl ?_
            refine z_iload dX3_valueOf_131 rfl rfl ?_
            obtain ⟨a3, h⟩ := h
            have wa3 := vin a3
            refine z_iast (a_Ru5 hx0) a3 dX3_valueOf_133 rfl ?_
            show zt l g (d + 1) M_X3_valueOf 134 [.ref x0, zJ, .int x2, .ref 91, .int x4, .int x5, .int v2, .int v2] [] (zI s (x0 + 5) x4.toNatClampNeg v2) _
            refine z_iinc (v := x4 + (1 : Int32)) dX3_valueOf_134 rfl rfl (by decide) (zokd rfl) rfl ?_
            show zt l g (d + 1) M_X3_valueOf 137 [.ref x0, zJ, .int x2, .ref 91, .int (x4 + (1 : Int32)), .int x5, .int v2, .int v2] [] (zI s (x0 + 5) x4.toNatClampNeg v2) _
            refine z_iinc (v := x5 + (1 : Int32)) dX3_valueOf_137 rfl rfl (by decide) (zokd rfl) rfl ?_
            show zt l g (d + 1) M_X3_valueOf 140 [.ref x0, zJ, .int x2, .ref 91, .int (x4 + (1 : Int32)), .int (x5 + (1 : Int32)), .int v2, .int v2] [] (zI s (x0 + 5) x4.toNatClampNeg v2) _
            refine z_goto (pn := 6) dX3_valueOf_140 (by decide) ?_
            refine z_wk (ls' := [.ref x0, zJ, .int x2, .ref 91, .int (x4 + (1 : Int32)), .int (x5 + (1 : Int32)), zJ, zJ]) ⟨Or.inr rfl, Or.inr rfl, Or.inr rfl, Or.inr rfl, Or.inr rfl, Or.inr rfl, Or.inl rfl, Or.inl rfl, trivial⟩ ?_
            exact h
          · have h := zif h c
            refine z_iconst (v := (0 : Int32)) dX3_valueOf_123 (by decide) rfl ?_
            exact z_ret (some (.int (0 : Int32))) (Or.inr (Or.inl ⟨_, _, rfl, rfl, rfl, dX3_valueOf_124⟩)) zN200 ⟨_, rfl, h⟩
        · have h := zif h c
          refine z_aload_n (i := 3) dX3_valueOf_102 rfl rfl rfl ?_
          refine z_iload dX3_valueOf_103 rfl rfl ?_
          obtain ⟨a4, h⟩ := h
          have wa4 := vin a4
          refine z_iald (x := s.1 91 ((v2 - (10011 : Int32)).toNatClampNeg)) rfl a_91 a4 dX3_valueOf_105 rfl ?_
          refine z_goto (pn := 111) dX3_valueOf_106 (by decide) ?_
          refine z_istore dX3_valueOf_111 (by decide) (zokd rfl) rfl ?_
          obtain ⟨v5, ev5⟩ : ∃ x : Int32, x = s.1 91 ((v2 - (10011 : Int32)).toNatClampNeg) := ⟨_, rfl⟩
          rw [← ev5]
          have h := h v5 ev5
          show zt l g (d + 1) M_X3_valueOf 113 [.ref x0, zJ, .int x2, .ref 91, .int x4, .int x5, .int v2, .int v5] [] s _
          refine z_iload dX3_valueOf_113 rfl rfl ?_
          refine z_aload_n (i := 0) dX3_valueOf_115 rfl rfl rfl ?_
          refine z_getR (q := x0 + 5) f_X3_24 (i_Ru hx0) rfl (r_Ru5 hR hx0) (by omega) dX3_valueOf_116 rfl ?_
          refine z_alen (v := 24) (by decide) (a_Ru5 hx0) (by decide) dX3_valueOf_119 rfl ?_
          refine z_icmp_lt (pt := 125) dX3_valueOf_120 (by decide) rfl (fun c => ?_) (fun c => ?_)
          · have h := zit h c
            refine z_aload_n (i := 0) dX3_valueOf_125 rfl rfl rfl ?_
            refine z_getR (q := x0 + 5) f_X3_24 (i_Ru hx0) rfl (r_Ru5 hR hx0) (by omega) dX3_valueOf_126 rfl ?_
            refine z_iload dX3_valueOf_129 rfl rfl ?_
            refine z_iload dX3_valueOf_131 rfl rfl ?_
            obtain ⟨a6, h⟩ := h
            have wa6 := vin a6
            refine z_iast (a_Ru5 hx0) a6 dX3_valueOf_133 rfl ?_
            show zt l g (d + 1) M_X3_valueOf 134 [.ref x0, zJ, .int x2, .ref 91, .int x4, .int x5, .int v2, .int v5] [] (zI s (x0 + 5) x4.toNatClampNeg v5) _
            refine z_iinc (v := x4 + (1 : Int32)) dX3_valueOf_134 rfl rfl (by decide) (zokd rfl) rfl ?_
            show zt l g (d + 1) M_X3_valueOf 137 [.ref x0, zJ, .int x2, .ref 91, .int (x4 + (1 : Int32)), .int x5, .int v2, .int v5] [] (zI s (x0 + 5) x4.toNatClampNeg v5) _
            refine z_iinc (v := x5 + (1 : Int32)) dX3_valueOf_137 rfl rfl (by decide) (zokd rfl) rfl ?_
            show zt l g (d + 1) M_X3_valueOf 140 [.ref x0, zJ, .int x2, .ref 91, .int (x4 + (1 : Int32)), .int (x5 + (1 : Int32)), .int v2, .int v5] [] (zI s (x0 + 5) x4.toNatClampNeg v5) _
            refine z_goto (pn := 6) dX3_valueOf_140 (by decide) ?_
            refine z_wk (ls' := [.ref x0, zJ, .int x2, .ref 91, .int (x4 + (1 : Int32)), .int (x5 + (1 : Int32)), zJ, zJ]) ⟨Or.inr rfl, Or.inr rfl, Or.inr rfl, Or.inr rfl, Or.inr rfl, Or.inr rfl, Or.inl rfl, Or.inl rfl, trivial⟩ ?_
            exact h
          · have h := zif h c
            refine z_iconst (v := (0 : Int32)) dX3_valueOf_123 (by decide) rfl ?_
            exact z_ret (some (.int (0 : Int32))) (Or.inr (Or.inl ⟨_, _, rfl, rfl, rfl, dX3_valueOf_124⟩)) zN200 ⟨_, rfl, h⟩
      · have h := zif h c
        refine z_iload dX3_valueOf_45 rfl rfl ?_
        refine z_if_lt (pt := 57) dX3_valueOf_47 (by decide) rfl (fun c => ?_) (fun c => ?_)
        · have h := zit h c
          refine z_iload dX3_valueOf_57 rfl rfl ?_
          refine z_iconst (v := (2 : Int32)) dX3_valueOf_59 (by decide) rfl ?_
          refine z_icmp_ge (pt := 65) dX3_valueOf_60 (by decide) rfl (fun c => ?_) (fun c => ?_)
          · have h := zit h c
            refine z_iinc (v := x4 - (2 : Int32)) dX3_valueOf_65 rfl (zincn (by decide)) (by decide) (zokd rfl) rfl ?_
            show zt l g (d + 1) M_X3_valueOf 68 [.ref x0, zJ, .int x2, .ref 91, .int (x4 - (2 : Int32)), .int x5, .int v2, .int (v2 - (10011 : Int32))] [] s _
            refine z_iload dX3_valueOf_68 rfl rfl ?_
            refine z_aload_n (i := 0) dX3_valueOf_70 rfl rfl rfl ?_
            refine z_getR (q := x0 + 5) f_X3_24 (i_Ru hx0) rfl (r_Ru5 hR hx0) (by omega) dX3_valueOf_71 rfl ?_
            refine z_iload dX3_valueOf_74 rfl rfl ?_
            obtain ⟨a7, h⟩ := h
            have wa7 := vin a7
            refine z_iald (x := s.1 (x0 + 5) ((x4 - (2 : Int32)).toNatClampNeg)) rfl (a_Ru5 hx0) a7 dX3_valueOf_76 rfl ?_
            refine z_aload_n (i := 0) dX3_valueOf_77 rfl rfl rfl ?_
            refine z_getR (q := x0 + 5) f_X3_24 (i_Ru hx0) rfl (r_Ru5 hR hx0) (by omega) dX3_valueOf_78 rfl ?_
            refine z_iload dX3_valueOf_81 rfl rfl ?_
            refine z_iconst (v := (1 : Int32)) dX3_valueOf_83 (by decide) rfl ?_
            refine z_iadd dX3_valueOf_84 rfl ?_
            obtain ⟨a8, h⟩ := h
            have wa8 := vin a8
            refine z_iald (x := s.1 (x0 + 5) (((x4 - (2 : Int32)) + (1 : Int32)).toNatClampNeg)) rfl (a_Ru5 hx0) a8 dX3_valueOf_85 rfl ?_
            refine z_callS (as := [.int v2, .int (s.1 (x0 + 5) ((x4 - (2 : Int32)).toNatClampNeg)), .int (s.1 (x0 + 5) (((x4 - (2 : Int32)) + (1 : Int32)).toNatClampNeg))]) k_X3_joinedBy m_X3_48 rfl h rfl (Nat.le_of_ble_eq_true rfl) dX3_valueOf_86 zy200 rfl ?_
            rintro v s9 ⟨r10, rfl, hRs9, h⟩
            show zt l g (d + 1) M_X3_valueOf 89 [.ref x0, zJ, .int x2, .ref 91, .int (x4 - (2 : Int32)), .int x5, .int v2, .int (v2 - (10011 : Int32))] [.int r10] s9 _
            refine z_istore dX3_valueOf_89 (by decide) (zokd rfl) rfl ?_
            show zt l g (d + 1) M_X3_valueOf 91 [.ref x0, zJ, .int x2, .ref 91, .int (x4 - (2 : Int32)), .int x5, .int v2, .int r10] [] s9 _
            refine z_goto (pn := 113) dX3_valueOf_91 (by decide) ?_
            refine z_iload dX3_valueOf_113 rfl rfl ?_
            refine z_aload_n (i := 0) dX3_valueOf_115 rfl rfl rfl ?_
            refine z_getR (q := x0 + 5) f_X3_24 (i_Ru hx0) rfl (r_Ru5 (zRok_of hRs9 hR) hx0) (by omega) dX3_valueOf_116 rfl ?_
            refine z_alen (v := 24) (by decide) (a_Ru5 hx0) (by decide) dX3_valueOf_119 rfl ?_
            refine z_icmp_lt (pt := 125) dX3_valueOf_120 (by decide) rfl (fun c => ?_) (fun c => ?_)
            · have h := zit h c
              refine z_aload_n (i := 0) dX3_valueOf_125 rfl rfl rfl ?_
              refine z_getR (q := x0 + 5) f_X3_24 (i_Ru hx0) rfl (r_Ru5 (zRok_of hRs9 hR) hx0) (by omega) dX3_valueOf_126 rfl ?_
              refine z_iload dX3_valueOf_129 rfl rfl ?_
              refine z_iload dX3_valueOf_131 rfl rfl ?_
              obtain ⟨a11, h⟩ := h
              have wa11 := vin a11
              refine z_iast (a_Ru5 hx0) a11 dX3_valueOf_133 rfl ?_
              show zt l g (d + 1) M_X3_valueOf 134 [.ref x0, zJ, .int x2, .ref 91, .int (x4 - (2 : Int32)), .int x5, .int v2, .int r10] [] (zI s9 (x0 + 5) ((x4 - (2 : Int32)).toNatClampNeg) r10) _
              refine z_iinc (v := (x4 - (2 : Int32)) + (1 : Int32)) dX3_valueOf_134 rfl rfl (by decide) (zokd rfl) rfl ?_
              show zt l g (d + 1) M_X3_valueOf 137 [.ref x0, zJ, .int x2, .ref 91, .int ((x4 - (2 : Int32)) + (1 : Int32)), .int x5, .int v2, .int r10] [] (zI s9 (x0 + 5) ((x4 - (2 : Int32)).toNatClampNeg) r10) _
              refine z_iinc (v := x5 + (1 : Int32)) dX3_valueOf_137 rfl rfl (by decide) (zokd rfl) rfl ?_
              show zt l g (d + 1) M_X3_valueOf 140 [.ref x0, zJ, .int x2, .ref 91, .int ((x4 - (2 : Int32)) + (1 : Int32)), .int (x5 + (1 : Int32)), .int v2, .int r10] [] (zI s9 (x0 + 5) ((x4 - (2 : Int32)).toNatClampNeg) r10) _
              refine z_goto (pn := 6) dX3_valueOf_140 (by decide) ?_
              refine z_wk (ls' := [.ref x0, zJ, .int x2, .ref 91, .int ((x4 - (2 : Int32)) + (1 : Int32)), .int (x5 + (1 : Int32)), zJ, zJ]) ⟨Or.inr rfl, Or.inr rfl, Or.inr rfl, Or.inr rfl, Or.inr rfl, Or.inr rfl, Or.inl rfl, Or.inl rfl, trivial⟩ ?_
              exact h
            · have h := zif h c
              refine z_iconst (v := (0 : Int32)) dX3_valueOf_123 (by decide) rfl ?_
              exact z_ret (some (.int (0 : Int32))) (Or.inr (Or.inl ⟨_, _, rfl, rfl, rfl, dX3_valueOf_124⟩)) zN200 ⟨_, rfl, h⟩
          · have h := zif h c
            refine z_iconst (v := (0 : Int32)) dX3_valueOf_63 (by decide) rfl ?_
            exact z_ret (some (.int (0 : Int32))) (Or.inr (Or.inl ⟨_, _, rfl, rfl, rfl, dX3_valueOf_64⟩)) zN200 ⟨_, rfl, h⟩
        · have h := zif h c
          refine z_iload dX3_valueOf_50 rfl rfl ?_
          refine z_bipush (v := (7 : Int32)) dX3_valueOf_52 (by decide) rfl ?_
          refine z_icmp_lt (pt := 94) dX3_valueOf_54 (by decide) rfl (fun c => ?_) (fun c => ?_)
          · have h := zit h c
            refine z_iload dX3_valueOf_94 rfl rfl ?_
            refine z_sipush (v := (9999 : Int32)) dX3_valueOf_96 (by decide) rfl ?_
            refine z_icmp_le (pt := 109) dX3_valueOf_99 (by decide) rfl (fun c => ?_) (fun c => ?_)
            · have h := zit h c
              refine z_iload dX3_valueOf_109 rfl rfl ?_
              refine z_istore dX3_valueOf_111 (by decide) (zokd rfl) rfl ?_
              show zt l g (d + 1) M_X3_valueOf 113 [.ref x0, zJ, .int x2, .ref 91, .int x4, .int x5, .int v2, .int v2] [] s _
              refine z_iload dX3_valueOf_113 rfl rfl ?_
              refine z_aload_n (i := 0) dX3_valueOf_115 rfl rfl rfl ?_
              refine z_getR (q := x0 + 5) f_X3_24 (i_Ru hx0) rfl (r_Ru5 hR hx0) (by omega) dX3_valueOf_116 rfl ?_
              refine z_alen (v := 24) (by decide) (a_Ru5 hx0) (by decide) dX3_valueOf_119 rfl ?_
              refine z_icmp_lt (pt := 125) dX3_valueOf_120 (by decide) rfl (fun c => ?_) (fun c => ?_)
              · have h := zit h c
                refine z_aload_n (i := 0) dX3_valueOf_125 rfl rfl rfl ?_
                refine z_getR (q := x0 + 5) f_X3_24 (i_Ru hx0) rfl (r_Ru5 hR hx0) (by omega) dX3_valueOf_126 rfl ?_
                refine z_iload dX3_valueOf_129 rfl rfl ?_
                refine z_iload dX3_valueOf_131 rfl rfl ?_
                obtain ⟨a12, h⟩ := h
                have wa12 := vin a12
                refine z_iast (a_Ru5 hx0) a12 dX3_valueOf_133 rfl ?_
                show zt l g (d + 1) M_X3_valueOf 134 [.ref x0, zJ, .int x2, .ref 91, .int x4, .int x5, .int v2, .int v2] [] (zI s (x0 + 5) x4.toNatClampNeg v2) _
                refine z_iinc (v := x4 + (1 : Int32)) dX3_valueOf_134 rfl rfl (by decide) (zokd rfl) rfl ?_
                show zt l g (d + 1) M_X3_valueOf 137 [.ref x0, zJ, .int x2, .ref 91, .int (x4 + (1 : Int32)), .int x5, .int v2, .int v2] [] (zI s (x0 + 5) x4.toNatClampNeg v2) _
                refine z_iinc (v := x5 + (1 : Int32)) dX3_valueOf_137 rfl rfl (by decide) (zokd rfl) rfl ?_
                show zt l g (d + 1) M_X3_valueOf 140 [.ref x0, zJ, .int x2, .ref 91, .int (x4 + (1 : Int32)), .int (x5 + (1 : Int32)), .int v2, .int v2] [] (zI s (x0 + 5) x4.toNatClampNeg v2) _
                refine z_goto (pn := 6) dX3_valueOf_140 (by decide) ?_
                refine z_wk (ls' := [.ref x0, zJ, .int x2, .ref 91, .int (x4 + (1 : Int32)), .int (x5 + (1 : Int32)), zJ, zJ]) ⟨Or.inr rfl, Or.inr rfl, Or.inr rfl, Or.inr rfl, Or.inr rfl, Or.inr rfl, Or.inl rfl, Or.inl rfl, trivial⟩ ?_
                exact h
              · have h := zif h c
                refine z_iconst (v := (0 : Int32)) dX3_valueOf_123 (by decide) rfl ?_
                exact z_ret (some (.int (0 : Int32))) (Or.inr (Or.inl ⟨_, _, rfl, rfl, rfl, dX3_valueOf_124⟩)) zN200 ⟨_, rfl, h⟩
            · have h := zif h c
              refine z_aload_n (i := 3) dX3_valueOf_102 rfl rfl rfl ?_
              refine z_iload dX3_valueOf_103 rfl rfl ?_
              obtain ⟨a13, h⟩ := h
              have wa13 := vin a13
              refine z_iald (x := s.1 91 ((v2 - (10011 : Int32)).toNatClampNeg)) rfl a_91 a13 dX3_valueOf_105 rfl ?_
              refine z_goto (pn := 111) dX3_valueOf_106 (by decide) ?_
              refine z_istore dX3_valueOf_111 (by decide) (zokd rfl) rfl ?_
              obtain ⟨v14, ev14⟩ : ∃ x : Int32, x = s.1 91 ((v2 - (10011 : Int32)).toNatClampNeg) := ⟨_, rfl⟩
              rw [← ev14]
              have h := h v14 ev14
              show zt l g (d + 1) M_X3_valueOf 113 [.ref x0, zJ, .int x2, .ref 91, .int x4, .int x5, .int v2, .int v14] [] s _
              refine z_iload dX3_valueOf_113 rfl rfl ?_
              refine z_aload_n (i := 0) dX3_valueOf_115 rfl rfl rfl ?_
              refine z_getR (q := x0 + 5) f_X3_24 (i_Ru hx0) rfl (r_Ru5 hR hx0) (by omega) dX3_valueOf_116 rfl ?_
              refine z_alen (v := 24) (by decide) (a_Ru5 hx0) (by decide) dX3_valueOf_119 rfl ?_
              refine z_icmp_lt (pt := 125) dX3_valueOf_120 (by decide) rfl (fun c => ?_) (fun c => ?_)
              · have h := zit h c
                refine z_aload_n (i := 0) dX3_valueOf_125 rfl rfl rfl ?_
                refine z_getR (q := x0 + 5) f_X3_24 (i_Ru hx0) rfl (r_Ru5 hR hx0) (by omega) dX3_valueOf_126 rfl ?_
                refine z_iload dX3_valueOf_129 rfl rfl ?_
                refine z_iload dX3_valueOf_131 rfl rfl ?_
                obtain ⟨a15, h⟩ := h
                have wa15 := vin a15
                refine z_iast (a_Ru5 hx0) a15 dX3_valueOf_133 rfl ?_
                show zt l g (d + 1) M_X3_valueOf 134 [.ref x0, zJ, .int x2, .ref 91, .int x4, .int x5, .int v2, .int v14] [] (zI s (x0 + 5) x4.toNatClampNeg v14) _
                refine z_iinc (v := x4 + (1 : Int32)) dX3_valueOf_134 rfl rfl (by decide) (zokd rfl) rfl ?_
                show zt l g (d + 1) M_X3_valueOf 137 [.ref x0, zJ, .int x2, .ref 91, .int (x4 + (1 : Int32)), .int x5, .int v2, .int v14] [] (zI s (x0 + 5) x4.toNatClampNeg v14) _
                refine z_iinc (v := x5 + (1 : Int32)) dX3_valueOf_137 rfl rfl (by decide) (zokd rfl) rfl ?_
                show zt l g (d + 1) M_X3_valueOf 140 [.ref x0, zJ, .int x2, .ref 91, .int (x4 + (1 : Int32)), .int (x5 + (1 : Int32)), .int v2, .int v14] [] (zI s (x0 + 5) x4.toNatClampNeg v14) _
                refine z_goto (pn := 6) dX3_valueOf_140 (by decide) ?_
                refine z_wk (ls' := [.ref x0, zJ, .int x2, .ref 91, .int (x4 + (1 : Int32)), .int (x5 + (1 : Int32)), zJ, zJ]) ⟨Or.inr rfl, Or.inr rfl, Or.inr rfl, Or.inr rfl, Or.inr rfl, Or.inr rfl, Or.inl rfl, Or.inl rfl, trivial⟩ ?_
                exact h
              · have h := zif h c
                refine z_iconst (v := (0 : Int32)) dX3_valueOf_123 (by decide) rfl ?_
                exact z_ret (some (.int (0 : Int32))) (Or.inr (Or.inl ⟨_, _, rfl, rfl, rfl, dX3_valueOf_124⟩)) zN200 ⟨_, rfl, h⟩
          · have h := zif h c
            refine z_iload dX3_valueOf_57 rfl rfl ?_
            refine z_iconst (v := (2 : Int32)) dX3_valueOf_59 (by decide) rfl ?_
            refine z_icmp_ge (pt := 65) dX3_valueOf_60 (by decide) rfl (fun c => ?_) (fun c => ?_)
            · have h := zit h c
              refine z_iinc (v := x4 - (2 : Int32)) dX3_valueOf_65 rfl (zincn (by decide)) (by decide) (zokd rfl) rfl ?_
              show zt l g (d + 1) M_X3_valueOf 68 [.ref x0, zJ, .int x2, .ref 91, .int (x4 - (2 : Int32)), .int x5, .int v2, .int (v2 - (10011 : Int32))] [] s _
              refine z_iload dX3_valueOf_68 rfl rfl ?_
              refine z_aload_n (i := 0) dX3_valueOf_70 rfl rfl rfl ?_
              refine z_getR (q := x0 + 5) f_X3_24 (i_Ru hx0) rfl (r_Ru5 hR hx0) (by omega) dX3_valueOf_71 rfl ?_
              refine z_iload dX3_valueOf_74 rfl rfl ?_
              obtain ⟨a16, h⟩ := h
              have wa16 := vin a16
              refine z_iald (x := s.1 (x0 + 5) ((x4 - (2 : Int32)).toNatClampNeg)) rfl (a_Ru5 hx0) a16 dX3_valueOf_76 rfl ?_
              refine z_aload_n (i := 0) dX3_valueOf_77 rfl rfl rfl ?_
              refine z_getR (q := x0 + 5) f_X3_24 (i_Ru hx0) rfl (r_Ru5 hR hx0) (by omega) dX3_valueOf_78 rfl ?_
              refine z_iload dX3_valueOf_81 rfl rfl ?_
              refine z_iconst (v := (1 : Int32)) dX3_valueOf_83 (by decide) rfl ?_
              refine z_iadd dX3_valueOf_84 rfl ?_
              obtain ⟨a17, h⟩ := h
              have wa17 := vin a17
              refine z_iald (x := s.1 (x0 + 5) (((x4 - (2 : Int32)) + (1 : Int32)).toNatClampNeg)) rfl (a_Ru5 hx0) a17 dX3_valueOf_85 rfl ?_
              refine z_callS (as := [.int v2, .int (s.1 (x0 + 5) ((x4 - (2 : Int32)).toNatClampNeg)), .int (s.1 (x0 + 5) (((x4 - (2 : Int32)) + (1 : Int32)).toNatClampNeg))]) k_X3_joinedBy m_X3_48 rfl h rfl (Nat.le_of_ble_eq_true rfl) dX3_valueOf_86 zy200 rfl ?_
              rintro v s18 ⟨r19, rfl, hRs18, h⟩
              show zt l g (d + 1) M_X3_valueOf 89 [.ref x0, zJ, .int x2, .ref 91, .int (x4 - (2 : Int32)), .int x5, .int v2, .int (v2 - (10011 : Int32))] [.int r19] s18 _
              refine z_istore dX3_valueOf_89 (by decide) (zokd rfl) rfl ?_
              show zt l g (d + 1) M_X3_valueOf 91 [.ref x0, zJ, .int x2, .ref 91, .int (x4 - (2 : Int32)), .int x5, .int v2, .int r19] [] s18 _
              refine z_goto (pn := 113) dX3_valueOf_91 (by decide) ?_
              refine z_iload dX3_valueOf_113 rfl rfl ?_
              refine z_aload_n (i := 0) dX3_valueOf_115 rfl rfl rfl ?_
              refine z_getR (q := x0 + 5) f_X3_24 (i_Ru hx0) rfl (r_Ru5 (zRok_of hRs18 hR) hx0) (by omega) dX3_valueOf_116 rfl ?_
              refine z_alen (v := 24) (by decide) (a_Ru5 hx0) (by decide) dX3_valueOf_119 rfl ?_
              refine z_icmp_lt (pt := 125) dX3_valueOf_120 (by decide) rfl (fun c => ?_) (fun c => ?_)
              · have h := zit h c
                refine z_aload_n (i := 0) dX3_valueOf_125 rfl rfl rfl ?_
                refine z_getR (q := x0 + 5) f_X3_24 (i_Ru hx0) rfl (r_Ru5 (zRok_of hRs18 hR) hx0) (by omega) dX3_valueOf_126 rfl ?_
                refine z_iload dX3_valueOf_129 rfl rfl ?_
                refine z_iload dX3_valueOf_131 rfl rfl ?_
                obtain ⟨a20, h⟩ := h
                have wa20 := vin a20
                refine z_iast (a_Ru5 hx0) a20 dX3_valueOf_133 rfl ?_
                show zt l g (d + 1) M_X3_valueOf 134 [.ref x0, zJ, .int x2, .ref 91, .int (x4 - (2 : Int32)), .int x5, .int v2, .int r19] [] (zI s18 (x0 + 5) ((x4 - (2 : Int32)).toNatClampNeg) r19) _
                refine z_iinc (v := (x4 - (2 : Int32)) + (1 : Int32)) dX3_valueOf_134 rfl rfl (by decide) (zokd rfl) rfl ?_
                show zt l g (d + 1) M_X3_valueOf 137 [.ref x0, zJ, .int x2, .ref 91, .int ((x4 - (2 : Int32)) + (1 : Int32)), .int x5, .int v2, .int r19] [] (zI s18 (x0 + 5) ((x4 - (2 : Int32)).toNatClampNeg) r19) _
                refine z_iinc (v := x5 + (1 : Int32)) dX3_valueOf_137 rfl rfl (by decide) (zokd rfl) rfl ?_
                show zt l g (d + 1) M_X3_valueOf 140 [.ref x0, zJ, .int x2, .ref 91, .int ((x4 - (2 : Int32)) + (1 : Int32)), .int (x5 + (1 : Int32)), .int v2, .int r19] [] (zI s18 (x0 + 5) ((x4 - (2 : Int32)).toNatClampNeg) r19) _
                refine z_goto (pn := 6) dX3_valueOf_140 (by decide) ?_
                refine z_wk (ls' := [.ref x0, zJ, .int x2, .ref 91, .int ((x4 - (2 : Int32)) + (1 : Int32)), .int (x5 + (1 : Int32)), zJ, zJ]) ⟨Or.inr rfl, Or.inr rfl, Or.inr rfl, Or.inr rfl, Or.inr rfl, Or.inr rfl, Or.inl rfl, Or.inl rfl, trivial⟩ ?_
                exact h
              · have h := zif h c
                refine z_iconst (v := (0 : Int32)) dX3_valueOf_123 (by decide) rfl ?_
                exact z_ret (some (.int (0 : Int32))) (Or.inr (Or.inl ⟨_, _, rfl, rfl, rfl, dX3_valueOf_124⟩)) zN200 ⟨_, rfl, h⟩
            · have h := zif h c
              refine z_iconst (v := (0 : Int32)) dX3_valueOf_63 (by decide) rfl ?_
              exact z_ret (some (.int (0 : Int32))) (Or.inr (Or.inl ⟨_, _, rfl, rfl, rfl, dX3_valueOf_64⟩)) zN200 ⟨_, rfl, h⟩
theorem dX3_joinedBy_0 : decode cX3_joinedBy 0 = .ok (.iload_n 0, 1) := by decide +kernel
theorem dX3_joinedBy_1 : decode cX3_joinedBy 1 = .ok (.lookupswitch 100 #[(20042, 69), (20043, 51), (20045, 60), (20060, 78), (20061, 89)], 51) := by decide +kernel
theorem dX3_joinedBy_52 : decode cX3_joinedBy 52 = .ok (.iload_n 1, 1) := by decide +kernel
theorem dX3_joinedBy_53 : decode cX3_joinedBy 53 = .ok (.i2l, 1) := by decide +kernel
theorem dX3_joinedBy_54 : decode cX3_joinedBy 54 = .ok (.iload_n 2, 1) := by decide +kernel
theorem dX3_joinedBy_55 : decode cX3_joinedBy 55 = .ok (.i2l, 1) := by decide +kernel
theorem dX3_joinedBy_56 : decode cX3_joinedBy 56 = .ok (.ladd, 1) := by decide +kernel
theorem dX3_joinedBy_57 : decode cX3_joinedBy 57 = .ok (.invokestatic 52, 3) := by decide +kernel
theorem dX3_joinedBy_60 : decode cX3_joinedBy 60 = .ok (.ireturn, 1) := by decide +kernel
theorem dX3_joinedBy_61 : decode cX3_joinedBy 61 = .ok (.iload_n 1, 1) := by decide +kernel
theorem dX3_joinedBy_62 : decode cX3_joinedBy 62 = .ok (.i2l, 1) := by decide +kernel
theorem dX3_joinedBy_63 : decode cX3_joinedBy 63 = .ok (.iload_n 2, 1) := by decide +kernel
theorem dX3_joinedBy_64 : decode cX3_joinedBy 64 = .ok (.i2l, 1) := by decide +kernel
theorem dX3_joinedBy_65 : decode cX3_joinedBy 65 = .ok (.lsub, 1) := by decide +kernel
theorem dX3_joinedBy_66 : decode cX3_joinedBy 66 = .ok (.invokestatic 52, 3) := by decide +kernel
theorem dX3_joinedBy_69 : decode cX3_joinedBy 69 = .ok (.ireturn, 1) := by decide +kernel
theorem dX3_joinedBy_70 : decode cX3_joinedBy 70 = .ok (.iload_n 1, 1) := by decide +kernel
theorem dX3_joinedBy_71 : decode cX3_joinedBy 71 = .ok (.i2l, 1) := by decide +kernel
theorem dX3_joinedBy_72 : decode cX3_joinedBy 72 = .ok (.iload_n 2, 1) := by decide +kernel
theorem dX3_joinedBy_73 : decode cX3_joinedBy 73 = .ok (.i2l, 1) := by decide +kernel
theorem dX3_joinedBy_74 : decode cX3_joinedBy 74 = .ok (.lmul, 1) := by decide +kernel
theorem dX3_joinedBy_75 : decode cX3_joinedBy 75 = .ok (.invokestatic 52, 3) := by decide +kernel
theorem dX3_joinedBy_78 : decode cX3_joinedBy 78 = .ok (.ireturn, 1) := by decide +kernel
theorem dX3_joinedBy_79 : decode cX3_joinedBy 79 = .ok (.iload_n 1, 1) := by decide +kernel
theorem dX3_joinedBy_80 : decode cX3_joinedBy 80 = .ok (.iload_n 2, 1) := by decide +kernel
theorem dX3_joinedBy_81 : decode cX3_joinedBy 81 = .ok (.if_icmp .ge 7, 3) := by decide +kernel
theorem dX3_joinedBy_84 : decode cX3_joinedBy 84 = .ok (.iconst 1, 1) := by decide +kernel
theorem dX3_joinedBy_85 : decode cX3_joinedBy 85 = .ok (.goto 4, 3) := by decide +kernel
theorem dX3_joinedBy_88 : decode cX3_joinedBy 88 = .ok (.iconst 0, 1) := by decide +kernel
theorem dX3_joinedBy_89 : decode cX3_joinedBy 89 = .ok (.ireturn, 1) := by decide +kernel
theorem dX3_joinedBy_90 : decode cX3_joinedBy 90 = .ok (.iload_n 1, 1) := by decide +kernel
theorem dX3_joinedBy_91 : decode cX3_joinedBy 91 = .ok (.iload_n 2, 1) := by decide +kernel
theorem dX3_joinedBy_92 : decode cX3_joinedBy 92 = .ok (.if_icmp .ne 7, 3) := by decide +kernel
theorem dX3_joinedBy_95 : decode cX3_joinedBy 95 = .ok (.iconst 1, 1) := by decide +kernel
theorem dX3_joinedBy_96 : decode cX3_joinedBy 96 = .ok (.goto 4, 3) := by decide +kernel
theorem dX3_joinedBy_99 : decode cX3_joinedBy 99 = .ok (.iconst 0, 1) := by decide +kernel
theorem dX3_joinedBy_100 : decode cX3_joinedBy 100 = .ok (.ireturn, 1) := by decide +kernel
theorem dX3_joinedBy_101 : decode cX3_joinedBy 101 = .ok (.iload_n 1, 1) := by decide +kernel
theorem dX3_joinedBy_102 : decode cX3_joinedBy 102 = .ok (.iload_n 2, 1) := by decide +kernel
theorem dX3_joinedBy_103 : decode cX3_joinedBy 103 = .ok (.iand, 1) := by decide +kernel
theorem dX3_joinedBy_104 : decode cX3_joinedBy 104 = .ok (.ireturn, 1) := by decide +kernel
set_option maxHeartbeats 4000000 in
set_option maxRecDepth 100000 in
theorem t_X3_joinedBy {l : Launch} {g : zG} {d : Nat} {s : zS} (hR : zRok s) {p0 : Int32} {p1 : Int32} {p2 : Int32} {K : Int32 → zS → Prop} (h : (if p0 = (20042 : Int32) then (zc l g d M_X3_bounded [.long (p1.toInt64 * p2.toInt64)] s (zKi (fun r2 s1 => s1.2.2.1 = s.2.2.1 ∧ K r2 s1))) else (if p0 = (20043 : Int32) then (zc l g d M_X3_bounded [.long (p1.toInt64 + p2.toInt64)] s (zKi (fun r4 s3 => s3.2.2.1 = s.2.2.1 ∧ K r4 s3))) else (if p0 = (20045 : Int32) then (zc l g d M_X3_bounded [.long (p1.toInt64 - p2.toInt64)] s (zKi (fun r6 s5 => s5.2.2.1 = s.2.2.1 ∧ K r6 s5))) else (if p0 = (20060 : Int32) then (if p2 ≤ p1 then K (0 : Int32) s else K (1 : Int32) s) else (if p0 = (20061 : Int32) then (if p1 = p2 then K (1 : Int32) s else K (0 : Int32) s) else K (p1 &&& p2) s)))))) : zc l g (d + 1) M_X3_joinedBy [.int p0, .int p1, .int p2] s (zKi K) := by
  refine zCall_of k_X3_joinedBy (Nat.le_of_ble_eq_true rfl) (Nat.le_refl _) (fun _ => ?_)
  show zt l g (d + 1) M_X3_joinedBy 0 [.int p0, .int p1, .int p2] [] s (zKi K)
  refine z_iload_n (i := 0) dX3_joinedBy_0 rfl rfl rfl ?_
  by_cases c20042 : p0 = (20042 : Int32)
  · have h := zit h c20042
    refine z_lookup (pt := 70) (off := 69) dX3_joinedBy_1 (by decide) (by rw [c20042]; decide) (by decide) ?_
    refine z_iload_n (i := 1) dX3_joinedBy_70 rfl rfl rfl ?_
    refine z_i2l dX3_joinedBy_71 rfl ?_
    refine z_iload_n (i := 2) dX3_joinedBy_72 rfl rfl rfl ?_
    refine z_i2l dX3_joinedBy_73 rfl ?_
    refine z_lmul dX3_joinedBy_74 rfl ?_
    refine z_callS (as := [.long (p1.toInt64 * p2.toInt64)]) k_X3_bounded m_X3_52 rfl h rfl (Nat.le_of_ble_eq_true rfl) dX3_joinedBy_75 zy200 rfl ?_
    rintro v s1 ⟨r2, rfl, hRs1, h⟩
    show zt l g (d + 1) M_X3_joinedBy 78 [.int p0, .int p1, .int p2] [.int r2] s1 _
    exact z_ret (some (.int r2)) (Or.inr (Or.inl ⟨_, _, rfl, rfl, rfl, dX3_joinedBy_78⟩)) zN200 ⟨_, rfl, h⟩
  have h := zif h c20042
  by_cases c20043 : p0 = (20043 : Int32)
  · have h := zit h c20043
    refine z_lookup (pt := 52) (off := 51) dX3_joinedBy_1 (by decide) (by rw [c20043]; decide) (by decide) ?_
    refine z_iload_n (i := 1) dX3_joinedBy_52 rfl rfl rfl ?_
    refine z_i2l dX3_joinedBy_53 rfl ?_
    refine z_iload_n (i := 2) dX3_joinedBy_54 rfl rfl rfl ?_
    refine z_i2l dX3_joinedBy_55 rfl ?_
    refine z_ladd dX3_joinedBy_56 rfl ?_
    refine z_callS (as := [.long (p1.toInt64 + p2.toInt64)]) k_X3_bounded m_X3_52 rfl h rfl (Nat.le_of_ble_eq_true rfl) dX3_joinedBy_57 zy200 rfl ?_
    rintro v s3 ⟨r4, rfl, hRs3, h⟩
    show zt l g (d + 1) M_X3_joinedBy 60 [.int p0, .int p1, .int p2] [.int r4] s3 _
    exact z_ret (some (.int r4)) (Or.inr (Or.inl ⟨_, _, rfl, rfl, rfl, dX3_joinedBy_60⟩)) zN200 ⟨_, rfl, h⟩
  have h := zif h c20043
  by_cases c20045 : p0 = (20045 : Int32)
  · have h := zit h c20045
    refine z_lookup (pt := 61) (off := 60) dX3_joinedBy_1 (by decide) (by rw [c20045]; decide) (by decide) ?_
    refine z_iload_n (i := 1) dX3_joinedBy_61 rfl rfl rfl ?_
    refine z_i2l dX3_joinedBy_62 rfl ?_
    refine z_iload_n (i := 2) dX3_joinedBy_63 rfl rfl rfl ?_
    refine z_i2l dX3_joinedBy_64 rfl ?_
    refine z_lsub dX3_joinedBy_65 rfl ?_
    refine z_callS (as := [.long (p1.toInt64 - p2.toInt64)]) k_X3_bounded m_X3_52 rfl h rfl (Nat.le_of_ble_eq_true rfl) dX3_joinedBy_66 zy200 rfl ?_
    rintro v s5 ⟨r6, rfl, hRs5, h⟩
    show zt l g (d + 1) M_X3_joinedBy 69 [.int p0, .int p1, .int p2] [.int r6] s5 _
    exact z_ret (some (.int r6)) (Or.inr (Or.inl ⟨_, _, rfl, rfl, rfl, dX3_joinedBy_69⟩)) zN200 ⟨_, rfl, h⟩
  have h := zif h c20045
  by_cases c20060 : p0 = (20060 : Int32)
  · have h := zit h c20060
    refine z_lookup (pt := 79) (off := 78) dX3_joinedBy_1 (by decide) (by rw [c20060]; decide) (by decide) ?_
    refine z_iload_n (i := 1) dX3_joinedBy_79 rfl rfl rfl ?_
    refine z_iload_n (i := 2) dX3_joinedBy_80 rfl rfl rfl ?_
    refine z_icmp_ge (pt := 88) dX3_joinedBy_81 (by decide) rfl (fun c => ?_) (fun c => ?_)
    · have h := zit h c
      refine z_iconst (v := (0 : Int32)) dX3_joinedBy_88 (by decide) rfl ?_
      exact z_ret (some (.int (0 : Int32))) (Or.inr (Or.inl ⟨_, _, rfl, rfl, rfl, dX3_joinedBy_89⟩)) zN200 ⟨_, rfl, h⟩
    · have h := zif h c
      refine z_iconst (v := (1 : Int32)) dX3_joinedBy_84 (by decide) rfl ?_
      refine z_goto (pn := 89) dX3_joinedBy_85 (by decide) ?_
      exact z_ret (some (.int (1 : Int32))) (Or.inr (Or.inl ⟨_, _, rfl, rfl, rfl, dX3_joinedBy_89⟩)) zN200 ⟨_, rfl, h⟩
  have h := zif h c20060
  by_cases c20061 : p0 = (20061 : Int32)
  · have h := zit h c20061
    refine z_lookup (pt := 90) (off := 89) dX3_joinedBy_1 (by decide) (by rw [c20061]; decide) (by decide) ?_
    refine z_iload_n (i := 1) dX3_joinedBy_90 rfl rfl rfl ?_
    refine z_iload_n (i := 2) dX3_joinedBy_91 rfl rfl rfl ?_
    refine z_icmp_ne (pt := 99) dX3_joinedBy_92 (by decide) rfl (fun c => ?_) (fun c => ?_)
    · have h := zif h c
      refine z_iconst (v := (0 : Int32)) dX3_joinedBy_99 (by decide) rfl ?_
      exact z_ret (some (.int (0 : Int32))) (Or.inr (Or.inl ⟨_, _, rfl, rfl, rfl, dX3_joinedBy_100⟩)) zN200 ⟨_, rfl, h⟩
    · have h := zit h c
      refine z_iconst (v := (1 : Int32)) dX3_joinedBy_95 (by decide) rfl ?_
      refine z_goto (pn := 100) dX3_joinedBy_96 (by decide) ?_
      exact z_ret (some (.int (1 : Int32))) (Or.inr (Or.inl ⟨_, _, rfl, rfl, rfl, dX3_joinedBy_100⟩)) zN200 ⟨_, rfl, h⟩
  have h := zif h c20061
  refine z_lookup (pt := 101) (off := 100) dX3_joinedBy_1 (by decide) (z_lkout ?_) (by decide) ?_
  · intro q hq
    have hq : q ∈ [((20042 : Int), (69 : Int)), ((20043 : Int), (51 : Int)), ((20045 : Int), (60 : Int)), ((20060 : Int), (78 : Int)), ((20061 : Int), (89 : Int))] := hq
    simp only [List.mem_cons, List.not_mem_nil, or_false] at hq
    rcases hq with rfl | rfl | rfl | rfl | rfl
    · exact z_toInt_ne (by decide) c20042
    · exact z_toInt_ne (by decide) c20043
    · exact z_toInt_ne (by decide) c20045
    · exact z_toInt_ne (by decide) c20060
    · exact z_toInt_ne (by decide) c20061
  · refine z_iload_n (i := 1) dX3_joinedBy_101 rfl rfl rfl ?_
    refine z_iload_n (i := 2) dX3_joinedBy_102 rfl rfl rfl ?_
    refine z_iand dX3_joinedBy_103 rfl ?_
    exact z_ret (some (.int (p1 &&& p2))) (Or.inr (Or.inl ⟨_, _, rfl, rfl, rfl, dX3_joinedBy_104⟩)) zN200 ⟨_, rfl, h⟩
theorem dX3_bounded_0 : decode cX3_bounded 0 = .ok (.ldc2_w 56, 3) := by decide +kernel
theorem dX3_bounded_3 : decode cX3_bounded 3 = .ok (.lload_n 0, 1) := by decide +kernel
theorem dX3_bounded_4 : decode cX3_bounded 4 = .ok (.ldc2_w 58, 3) := by decide +kernel
theorem dX3_bounded_7 : decode cX3_bounded 7 = .ok (.invokestatic 60, 3) := by decide +kernel
theorem dX3_bounded_10 : decode cX3_bounded 10 = .ok (.invokestatic 66, 3) := by decide +kernel
theorem dX3_bounded_13 : decode cX3_bounded 13 = .ok (.l2i, 1) := by decide +kernel
theorem dX3_bounded_14 : decode cX3_bounded 14 = .ok (.ireturn, 1) := by decide +kernel
set_option maxHeartbeats 4000000 in
set_option maxRecDepth 100000 in
theorem t_X3_bounded {l : Launch} {g : zG} {d : Nat} {s : zS} (hR : zRok s) {p0 : Int64} {K : Int32 → zS → Prop} (h : K ((zmaxL (-1000000 : Int64) (zminL p0 (1000000 : Int64))).toInt32) s) : zc l g (d + 1) M_X3_bounded [.long p0] s (zKi K) := by
  refine zCall_of k_X3_bounded (Nat.le_of_ble_eq_true rfl) (Nat.le_refl _) (fun _ => ?_)
  show zt l g (d + 1) M_X3_bounded 0 [.long p0, zJ] [] s (zKi K)
  refine z_ldc2 (v := (-1000000 : Int64)) q_X3_56 dX3_bounded_0 rfl ?_
  refine z_lload_n (i := 0) dX3_bounded_3 rfl rfl rfl ?_
  refine z_ldc2 (v := (1000000 : Int64)) q_X3_58 dX3_bounded_4 rfl ?_
  refine z_mminL m_X3_60 dX3_bounded_7 (Nat.le_of_ble_eq_true rfl) rfl ?_
  refine z_mmaxL m_X3_66 dX3_bounded_10 (Nat.le_of_ble_eq_true rfl) rfl ?_
  refine z_l2i dX3_bounded_13 rfl ?_
  exact z_ret (some (.int ((zmaxL (-1000000 : Int64) (zminL p0 (1000000 : Int64))).toInt32))) (Or.inr (Or.inl ⟨_, _, rfl, rfl, rfl, dX3_bounded_14⟩)) zN200 ⟨_, rfl, h⟩
theorem dX4_look_0 : decode cX4_look 0 = .ok (.aload_n 0, 1) := by decide +kernel
theorem dX4_look_1 : decode cX4_look 1 = .ok (.aload_n 1, 1) := by decide +kernel
theorem dX4_look_2 : decode cX4_look 2 = .ok (.getfield 15, 3) := by decide +kernel
theorem dX4_look_5 : decode cX4_look 5 = .ok (.ifCond .ne 7, 3) := by decide +kernel
theorem dX4_look_8 : decode cX4_look 8 = .ok (.iconst 1, 1) := by decide +kernel
theorem dX4_look_9 : decode cX4_look 9 = .ok (.goto 4, 3) := by decide +kernel
theorem dX4_look_12 : decode cX4_look 12 = .ok (.iconst 0, 1) := by decide +kernel
theorem dX4_look_13 : decode cX4_look 13 = .ok (.putfield 21, 3) := by decide +kernel
theorem dX4_look_16 : decode cX4_look 16 = .ok (.aload_n 0, 1) := by decide +kernel
theorem dX4_look_17 : decode cX4_look 17 = .ok (.getfield 21, 3) := by decide +kernel
theorem dX4_look_20 : decode cX4_look 20 = .ok (.ifCond .eq 39, 3) := by decide +kernel
theorem dX4_look_23 : decode cX4_look 23 = .ok (.aload_n 0, 1) := by decide +kernel
theorem dX4_look_24 : decode cX4_look 24 = .ok (.aload_n 1, 1) := by decide +kernel
theorem dX4_look_25 : decode cX4_look 25 = .ok (.getfield 25, 3) := by decide +kernel
theorem dX4_look_28 : decode cX4_look 28 = .ok (.aload_n 1, 1) := by decide +kernel
theorem dX4_look_29 : decode cX4_look 29 = .ok (.getfield 28, 3) := by decide +kernel
theorem dX4_look_32 : decode cX4_look 32 = .ok (.iload_n 3, 1) := by decide +kernel
theorem dX4_look_33 : decode cX4_look 33 = .ok (.imul, 1) := by decide +kernel
theorem dX4_look_34 : decode cX4_look 34 = .ok (.bipush 8, 2) := by decide +kernel
theorem dX4_look_36 : decode cX4_look 36 = .ok (.invokestatic 31, 3) := by decide +kernel
theorem dX4_look_39 : decode cX4_look 39 = .ok (.iadd, 1) := by decide +kernel
theorem dX4_look_40 : decode cX4_look 40 = .ok (.sipush 256, 3) := by decide +kernel
theorem dX4_look_43 : decode cX4_look 43 = .ok (.invokestatic 37, 3) := by decide +kernel
theorem dX4_look_46 : decode cX4_look 46 = .ok (.putfield 40, 3) := by decide +kernel
theorem dX4_look_49 : decode cX4_look 49 = .ok (.aload_n 0, 1) := by decide +kernel
theorem dX4_look_50 : decode cX4_look 50 = .ok (.aload_n 1, 1) := by decide +kernel
theorem dX4_look_51 : decode cX4_look 51 = .ok (.getfield 41, 3) := by decide +kernel
theorem dX4_look_54 : decode cX4_look 54 = .ok (.putfield 44, 3) := by decide +kernel
theorem dX4_look_57 : decode cX4_look 57 = .ok (.iconst 1, 1) := by decide +kernel
theorem dX4_look_58 : decode cX4_look 58 = .ok (.ireturn, 1) := by decide +kernel
theorem dX4_look_59 : decode cX4_look 59 = .ok (.aload_n 1, 1) := by decide +kernel
theorem dX4_look_60 : decode cX4_look 60 = .ok (.iload_n 3, 1) := by decide +kernel
theorem dX4_look_61 : decode cX4_look 61 = .ok (.aload_n 0, 1) := by decide +kernel
theorem dX4_look_62 : decode cX4_look 62 = .ok (.getfield 9, 3) := by decide +kernel
theorem dX4_look_65 : decode cX4_look 65 = .ok (.invokevirtual 45, 3) := by decide +kernel
theorem dX4_look_68 : decode cX4_look 68 = .ok (.ifCond .eq 11, 3) := by decide +kernel
theorem dX4_look_71 : decode cX4_look 71 = .ok (.aload_n 1, 1) := by decide +kernel
theorem dX4_look_72 : decode cX4_look 72 = .ok (.iload_n 3, 1) := by decide +kernel
theorem dX4_look_73 : decode cX4_look 73 = .ok (.invokevirtual 49, 3) := by decide +kernel
theorem dX4_look_76 : decode cX4_look 76 = .ok (.ifCond .ne 5, 3) := by decide +kernel
theorem dX4_look_79 : decode cX4_look 79 = .ok (.iconst 0, 1) := by decide +kernel
theorem dX4_look_80 : decode cX4_look 80 = .ok (.ireturn, 1) := by decide +kernel
theorem dX4_look_81 : decode cX4_look 81 = .ok (.aload_n 0, 1) := by decide +kernel
theorem dX4_look_82 : decode cX4_look 82 = .ok (.iload_n 2, 1) := by decide +kernel
theorem dX4_look_83 : decode cX4_look 83 = .ok (.bipush 64, 2) := by decide +kernel
theorem dX4_look_85 : decode cX4_look 85 = .ok (.idiv, 1) := by decide +kernel
theorem dX4_look_86 : decode cX4_look 86 = .ok (.putfield 53, 3) := by decide +kernel
theorem dX4_look_89 : decode cX4_look 89 = .ok (.aload_n 0, 1) := by decide +kernel
theorem dX4_look_90 : decode cX4_look 90 = .ok (.iload_n 2, 1) := by decide +kernel
theorem dX4_look_91 : decode cX4_look 91 = .ok (.bipush 64, 2) := by decide +kernel
theorem dX4_look_93 : decode cX4_look 93 = .ok (.irem, 1) := by decide +kernel
theorem dX4_look_94 : decode cX4_look 94 = .ok (.putfield 56, 3) := by decide +kernel
theorem dX4_look_97 : decode cX4_look 97 = .ok (.aload_n 0, 1) := by decide +kernel
theorem dX4_look_98 : decode cX4_look 98 = .ok (.aload_n 0, 1) := by decide +kernel
theorem dX4_look_99 : decode cX4_look 99 = .ok (.getfield 9, 3) := by decide +kernel
theorem dX4_look_102 : decode cX4_look 102 = .ok (.aload_n 0, 1) := by decide +kernel
theorem dX4_look_103 : decode cX4_look 103 = .ok (.getfield 53, 3) := by decide +kernel
theorem dX4_look_106 : decode cX4_look 106 = .ok (.aload_n 0, 1) := by decide +kernel
theorem dX4_look_107 : decode cX4_look 107 = .ok (.getfield 56, 3) := by decide +kernel
theorem dX4_look_110 : decode cX4_look 110 = .ok (.invokevirtual 59, 3) := by decide +kernel
theorem dX4_look_113 : decode cX4_look 113 = .ok (.iconst 1, 1) := by decide +kernel
theorem dX4_look_114 : decode cX4_look 114 = .ok (.iadd, 1) := by decide +kernel
theorem dX4_look_115 : decode cX4_look 115 = .ok (.putfield 64, 3) := by decide +kernel
theorem dX4_look_118 : decode cX4_look 118 = .ok (.aload_n 0, 1) := by decide +kernel
theorem dX4_look_119 : decode cX4_look 119 = .ok (.aload_n 1, 1) := by decide +kernel
theorem dX4_look_120 : decode cX4_look 120 = .ok (.iload_n 3, 1) := by decide +kernel
theorem dX4_look_121 : decode cX4_look 121 = .ok (.invokevirtual 67, 3) := by decide +kernel
theorem dX4_look_124 : decode cX4_look 124 = .ok (.aload_n 0, 1) := by decide +kernel
theorem dX4_look_125 : decode cX4_look 125 = .ok (.getfield 53, 3) := by decide +kernel
theorem dX4_look_128 : decode cX4_look 128 = .ok (.isub, 1) := by decide +kernel
theorem dX4_look_129 : decode cX4_look 129 = .ok (.putfield 71, 3) := by decide +kernel
theorem dX4_look_132 : decode cX4_look 132 = .ok (.aload_n 0, 1) := by decide +kernel
theorem dX4_look_133 : decode cX4_look 133 = .ok (.aload_n 1, 1) := by decide +kernel
theorem dX4_look_134 : decode cX4_look 134 = .ok (.iload_n 3, 1) := by decide +kernel
theorem dX4_look_135 : decode cX4_look 135 = .ok (.invokevirtual 74, 3) := by decide +kernel
theorem dX4_look_138 : decode cX4_look 138 = .ok (.aload_n 0, 1) := by decide +kernel
theorem dX4_look_139 : decode cX4_look 139 = .ok (.getfield 56, 3) := by decide +kernel
theorem dX4_look_142 : decode cX4_look 142 = .ok (.isub, 1) := by decide +kernel
theorem dX4_look_143 : decode cX4_look 143 = .ok (.putfield 77, 3) := by decide +kernel
theorem dX4_look_146 : decode cX4_look 146 = .ok (.aload_n 0, 1) := by decide +kernel
theorem dX4_look_147 : decode cX4_look 147 = .ok (.aload_n 1, 1) := by decide +kernel
theorem dX4_look_148 : decode cX4_look 148 = .ok (.iload_n 3, 1) := by decide +kernel
theorem dX4_look_149 : decode cX4_look 149 = .ok (.aload_n 0, 1) := by decide +kernel
theorem dX4_look_150 : decode cX4_look 150 = .ok (.getfield 9, 3) := by decide +kernel
theorem dX4_look_153 : decode cX4_look 153 = .ok (.invokevirtual 80, 3) := by decide +kernel
theorem dX4_look_156 : decode cX4_look 156 = .ok (.aload_n 0, 1) := by decide +kernel
theorem dX4_look_157 : decode cX4_look 157 = .ok (.getfield 64, 3) := by decide +kernel
theorem dX4_look_160 : decode cX4_look 160 = .ok (.isub, 1) := by decide +kernel
theorem dX4_look_161 : decode cX4_look 161 = .ok (.putfield 84, 3) := by decide +kernel
theorem dX4_look_164 : decode cX4_look 164 = .ok (.aload_n 0, 1) := by decide +kernel
theorem dX4_look_165 : decode cX4_look 165 = .ok (.aload_n 0, 1) := by decide +kernel
theorem dX4_look_166 : decode cX4_look 166 = .ok (.getfield 71, 3) := by decide +kernel
theorem dX4_look_169 : decode cX4_look 169 = .ok (.aload_n 0, 1) := by decide +kernel
theorem dX4_look_170 : decode cX4_look 170 = .ok (.getfield 77, 3) := by decide +kernel
theorem dX4_look_173 : decode cX4_look 173 = .ok (.invokestatic 87, 3) := by decide +kernel
theorem dX4_look_176 : decode cX4_look 176 = .ok (.putfield 40, 3) := by decide +kernel
theorem dX4_look_179 : decode cX4_look 179 = .ok (.aload_n 0, 1) := by decide +kernel
theorem dX4_look_180 : decode cX4_look 180 = .ok (.aload_n 0, 1) := by decide +kernel
theorem dX4_look_181 : decode cX4_look 181 = .ok (.getfield 84, 3) := by decide +kernel
theorem dX4_look_184 : decode cX4_look 184 = .ok (.aload_n 0, 1) := by decide +kernel
theorem dX4_look_185 : decode cX4_look 185 = .ok (.getfield 71, 3) := by decide +kernel
theorem dX4_look_188 : decode cX4_look 188 = .ok (.invokestatic 90, 3) := by decide +kernel
theorem dX4_look_191 : decode cX4_look 191 = .ok (.aload_n 0, 1) := by decide +kernel
theorem dX4_look_192 : decode cX4_look 192 = .ok (.getfield 77, 3) := by decide +kernel
theorem dX4_look_195 : decode cX4_look 195 = .ok (.invokestatic 90, 3) := by decide +kernel
theorem dX4_look_198 : decode cX4_look 198 = .ok (.iadd, 1) := by decide +kernel
theorem dX4_look_199 : decode cX4_look 199 = .ok (.invokestatic 93, 3) := by decide +kernel
theorem dX4_look_202 : decode cX4_look 202 = .ok (.putfield 44, 3) := by decide +kernel
theorem dX4_look_205 : decode cX4_look 205 = .ok (.iconst 1, 1) := by decide +kernel
theorem dX4_look_206 : decode cX4_look 206 = .ok (.ireturn, 1) := by decide +kernel
set_option maxHeartbeats 4000000 in
set_option maxRecDepth 100000 in
theorem t_X4_look {l : Launch} {g : zG} {d : Nat} {s : zS} (hR : zRok s) {p0 : Nat} (hp0 : 92 ≤ p0 ∧ p0 < 104) {p1 : Int32} {p2 : Int32} {K : Bool → zS → Prop} (h : (if (s.1 p0 0) = 0 then K true (zI (zI (zI s 68 3 (1 : Int32)) 68 1 (zfm ((s.1 p0 12) + (zfd ((s.1 p0 14) * p2) (8 : Int32))) (256 : Int32))) 68 2 (s.1 p0 13)) else (zc l g d M_X6_isThere [.ref p0, .int p2, .ref 65] (zI s 68 3 (0 : Int32)) (zKz (fun b2 s1 => s1.2.2.1 = s.2.2.1 ∧ (if b2 = true then (zc l g d M_X6_isLit [.ref p0, .int p2] s1 (zKz (fun b4 s3 => s3.2.2.1 = s1.2.2.1 ∧ (if b4 = true then (zc l g d M_X1_groundAt [.ref 65, .int (p1 / (64 : Int32)), .int (p1 % (64 : Int32))] (zI (zI s3 68 4 (p1 / (64 : Int32))) 68 5 (p1 % (64 : Int32))) (zKi (fun r6 s5 => s5.2.2.1 = s3.2.2.1 ∧ (zc l g d M_X6_xIn [.ref p0, .int p2] (zI s5 68 6 (r6 + (1 : Int32))) (zKi (fun r8 s7 => s7.2.2.1 = s5.2.2.1 ∧ (zc l g d M_X6_yIn [.ref p0, .int p2] (zI s7 68 7 (r8 - (s7.1 68 4))) (zKi (fun r10 s9 => s9.2.2.1 = s7.2.2.1 ∧ (zc l g d M_X6_zIn [.ref p0, .int p2, .ref 65] (zI s9 68 8 (r10 - (s9.1 68 5))) (zKi (fun r12 s11 => s11.2.2.1 = s9.2.2.1 ∧ (zc l g d M_X7_wayOf [.int (s11.1 68 7), .int (s11.1 68 8)] (zI s11 68 9 (r12 - (s11.1 68 6))) (zKi (fun r14 s13 => s13.2.2.1 = s11.2.2.1 ∧ (zc l g d M_X7_slopeOf [.int (s13.1 68 9), .int ((zabs (s13.1 68 7)) + (zabs (s13.1 68 8)))] (zI s13 68 1 r14) (zKi (fun r16 s15 => s15.2.2.1 = s13.2.2.1 ∧ K true (zI s15 68 2 r16))))))))))))))))))) else K false s3)))) else K false s1)))))) : zc l g (d + 1) M_X4_look [.ref 68, .ref p0, .int p1, .int p2] s (zKz K) := by
  refine zCall_of k_X4_look (Nat.le_of_ble_eq_true rfl) (Nat.le_refl _) (fun _ => ?_)
  show zt l g (d + 1) M_X4_look 0 [.ref 68, .ref p0, .int p1, .int p2] [] s (zKz K)
  refine z_aload_n (i := 0) dX4_look_0 rfl rfl rfl ?_
  refine z_aload_n (i := 1) dX4_look_1 rfl rfl rfl ?_
  refine z_getI (x := s.1 p0 0) rfl f_X4_15 (i_Th hp0) rfl dX4_look_2 rfl ?_
  refine z_if_ne (pt := 12) dX4_look_5 (by decide) rfl (fun c => ?_) (fun c => ?_)
  · have h := zif h c
    refine z_iconst (v := (0 : Int32)) dX4_look_12 (by decide) rfl ?_
    refine z_putI f_X4_21 i_68 rfl (Or.inl rfl) (by decide) (by decide) dX4_look_13 rfl ?_
    refine z_aload_n (i := 0) dX4_look_16 rfl rfl rfl ?_
    refine z_getI (x := (0 : Int32)) zI_eq f_X4_21 i_68 rfl dX4_look_17 rfl ?_
    refine z_if_eq (pt := 59) dX4_look_20 (by decide) rfl (fun _ => ?_) (fun c => absurd (by decide) c)
    refine z_aload_n (i := 1) dX4_look_59 rfl rfl rfl ?_
    refine z_iload_n (i := 3) dX4_look_60 rfl rfl rfl ?_
    refine z_aload_n (i := 0) dX4_look_61 rfl rfl rfl ?_
    refine z_getR (q := 65) f_X4_9 i_68 rfl (r_68_0 hR) (by decide) dX4_look_62 rfl ?_
    refine z_callV k_X6_isThere m_X4_45 (zRec_of (i_Th hp0)) rfl h rfl (Nat.le_of_ble_eq_true rfl) dX4_look_65 zy200 rfl ?_
    rintro v s1 ⟨b2, rfl, hRs1, h⟩
    show zt l g (d + 1) M_X4_look 68 [.ref 68, .ref p0, .int p1, .int p2] [.int (zb b2)] s1 _
    refine z_ifb_eq (pt := 79) dX4_look_68 (by decide) rfl (fun c => ?_) (fun c => ?_)
    · have h := zif h (by rw [c]; exact Bool.false_ne_true)
      refine z_iconst (v := (0 : Int32)) dX4_look_79 (by decide) rfl ?_
      exact z_ret (some (.int (zb false))) (Or.inr (Or.inl ⟨_, _, rfl, rfl, zb_nar _, dX4_look_80⟩)) zN200 ⟨_, rfl, h⟩
    · have h := zit h c
      refine z_aload_n (i := 1) dX4_look_71 rfl rfl rfl ?_
      refine z_iload_n (i := 3) dX4_look_72 rfl rfl rfl ?_
      refine z_callV k_X6_isLit m_X4_49 (zRec_of (i_Th hp0)) rfl h rfl (Nat.le_of_ble_eq_true rfl) dX4_look_73 zy200 rfl ?_
      rintro v s3 ⟨b4, rfl, hRs3, h⟩
      show zt l g (d + 1) M_X4_look 76 [.ref 68, .ref p0, .int p1, .int p2] [.int (zb b4)] s3 _
      refine z_ifb_ne (pt := 81) dX4_look_76 (by decide) rfl (fun c => ?_) (fun c => ?_)
      · have h := zit h c
        refine z_aload_n (i := 0) dX4_look_81 rfl rfl rfl ?_
        refine z_iload_n (i := 2) dX4_look_82 rfl rfl rfl ?_
        refine z_bipush (v := (64 : Int32)) dX4_look_83 (by decide) rfl ?_
        refine z_idiv dX4_look_85 (by decide) rfl ?_
        refine z_putI f_X4_53 i_68 rfl (Or.inl rfl) rfl rfl dX4_look_86 rfl ?_
        refine z_aload_n (i := 0) dX4_look_89 rfl rfl rfl ?_
        refine z_iload_n (i := 2) dX4_look_90 rfl rfl rfl ?_
        refine z_bipush (v := (64 : Int32)) dX4_look_91 (by decide) rfl ?_
        refine z_irem dX4_look_93 (by decide) rfl ?_
        refine z_putI f_X4_56 i_68 rfl (Or.inl rfl) rfl rfl dX4_look_94 rfl ?_
        refine z_aload_n (i := 0) dX4_look_97 rfl rfl rfl ?_
        refine z_aload_n (i := 0) dX4_look_98 rfl rfl rfl ?_
        refine z_getR (q := 65) f_X4_9 i_68 rfl (r_68_0 (zRok_of hRs3 (zRok_of hRs1 hR))) (by decide) dX4_look_99 rfl ?_
        refine z_aload_n (i := 0) dX4_look_102 rfl rfl rfl ?_
        refine z_getI (x := p1 / (64 : Int32)) ((zI_k (by decide)).trans zI_eq) f_X4_53 i_68 rfl dX4_look_103 rfl ?_
        refine z_aload_n (i := 0) dX4_look_106 rfl rfl rfl ?_
        refine z_getI (x := p1 % (64 : Int32)) zI_eq f_X4_56 i_68 rfl dX4_look_107 rfl ?_
        refine z_callV k_X1_groundAt m_X4_59 (zRec_of i_65) rfl h rfl (Nat.le_of_ble_eq_true rfl) dX4_look_110 zy200 rfl ?_
        rintro v s5 ⟨r6, rfl, hRs5, h⟩
        show zt l g (d + 1) M_X4_look 113 [.ref 68, .ref p0, .int p1, .int p2] [.int r6, .ref 68] s5 _
        refine z_iconst (v := (1 : Int32)) dX4_look_113 (by decide) rfl ?_
        refine z_iadd dX4_look_114 rfl ?_
        refine z_putI f_X4_64 i_68 rfl (Or.inl rfl) rfl rfl dX4_look_115 rfl ?_
        refine z_aload_n (i := 0) dX4_look_118 rfl rfl rfl ?_
        refine z_aload_n (i := 1) dX4_look_119 rfl rfl rfl ?_
        refine z_iload_n (i := 3) dX4_look_120 rfl rfl rfl ?_
        refine z_callV k_X6_xIn m_X4_67 (zRec_of (i_Th hp0)) rfl h rfl (Nat.le_of_ble_eq_true rfl) dX4_look_121 zy200 rfl ?_
        rintro v s7 ⟨r8, rfl, hRs7, h⟩
        show zt l g (d + 1) M_X4_look 124 [.ref 68, .ref p0, .int p1, .int p2] [.int r8, .ref 68] s7 _
        refine z_aload_n (i := 0) dX4_look_124 rfl rfl rfl ?_
        refine z_getI (x := s7.1 68 4) rfl f_X4_53 i_68 rfl dX4_look_125 rfl ?_
        refine z_isub dX4_look_128 rfl ?_
        refine z_putI f_X4_71 i_68 rfl (Or.inl rfl) rfl rfl dX4_look_129 rfl ?_
        refine z_aload_n (i := 0) dX4_look_132 rfl rfl rfl ?_
        refine z_aload_n (i := 1) dX4_look_133 rfl rfl rfl ?_
        refine z_iload_n (i := 3) dX4_look_134 rfl rfl rfl ?_
        refine z_callV k_X6_yIn m_X4_74 (zRec_of (i_Th hp0)) rfl h rfl (Nat.le_of_ble_eq_true rfl) dX4_look_135 zy200 rfl ?_
        rintro v s9 ⟨r10, rfl, hRs9, h⟩
        show zt l g (d + 1) M_X4_look 138 [.ref 68, .ref p0, .int p1, .int p2] [.int r10, .ref 68] s9 _
        refine z_aload_n (i := 0) dX4_look_138 rfl rfl rfl ?_
        refine z_getI (x := s9.1 68 5) rfl f_X4_56 i_68 rfl dX4_look_139 rfl ?_
        refine z_isub dX4_look_142 rfl ?_
        refine z_putI f_X4_77 i_68 rfl (Or.inl rfl) rfl rfl dX4_look_143 rfl ?_
        refine z_aload_n (i := 0) dX4_look_146 rfl rfl rfl ?_
        refine z_aload_n (i := 1) dX4_look_147 rfl rfl rfl ?_
        refine z_iload_n (i := 3) dX4_look_148 rfl rfl rfl ?_
        refine z_aload_n (i := 0) dX4_look_149 rfl rfl rfl ?_
        refine z_getR (q := 65) f_X4_9 i_68 rfl (r_68_0 (zRok_of hRs9 (zRok_of hRs7 (zRok_of hRs5 (zRok_of hRs3 (zRok_of hRs1 hR)))))) (by decide) dX4_look_150 rfl ?_
        refine z_callV k_X6_zIn m_X4_80 (zRec_of (i_Th hp0)) rfl h rfl (Nat.le_of_ble_eq_true rfl) dX4_look_153 zy200 rfl ?_
        rintro v s11 ⟨r12, rfl, hRs11, h⟩
        show zt l g (d + 1) M_X4_look 156 [.ref 68, .ref p0, .int p1, .int p2] [.int r12, .ref 68] s11 _
        refine z_aload_n (i := 0) dX4_look_156 rfl rfl rfl ?_
        refine z_getI (x := s11.1 68 6) rfl f_X4_64 i_68 rfl dX4_look_157 rfl ?_
        refine z_isub dX4_look_160 rfl ?_
        refine z_putI f_X4_84 i_68 rfl (Or.inl rfl) rfl rfl dX4_look_161 rfl ?_
        refine z_aload_n (i := 0) dX4_look_164 rfl rfl rfl ?_
        refine z_aload_n (i := 0) dX4_look_165 rfl rfl rfl ?_
        refine z_getI (x := s11.1 68 7) (zI_k (by decide)) f_X4_71 i_68 rfl dX4_look_166 rfl ?_
        refine z_aload_n (i := 0) dX4_look_169 rfl rfl rfl ?_
        refine z_getI (x := s11.1 68 8) (zI_k (by decide)) f_X4_77 i_68 rfl dX4_look_170 rfl ?_
        refine z_callSN (as := [.int (s11.1 68 7), .int (s11.1 68 8)]) k_X7_wayOf m_X4_87 rfl h rfl (Nat.le_of_ble_eq_true rfl) dX4_look_173 zy200 rfl ?_
        rintro v s13 ⟨r14, rfl, hRs13, h⟩
        show zt l g (d + 1) M_X4_look 176 [.ref 68, .ref p0, .int p1, .int p2] [.int r14, .ref 68] s13 _
        refine z_putI f_X4_40 i_68 rfl (Or.inl rfl) rfl rfl dX4_look_176 rfl ?_
        refine z_aload_n (i := 0) dX4_look_179 rfl rfl rfl ?_
        refine z_aload_n (i := 0) dX4_look_180 rfl rfl rfl ?_
        refine z_getI (x := s13.1 68 9) (zI_k (by decide)) f_X4_84 i_68 rfl dX4_look_181 rfl ?_
        refine z_aload_n (i := 0) dX4_look_184 rfl rfl rfl ?_
        refine z_getI (x := s13.1 68 7) (zI_k (by decide)) f_X4_71 i_68 rfl dX4_look_185 rfl ?_
        refine z_mabs m_X4_90 dX4_look_188 (Nat.le_of_ble_eq_true rfl) rfl ?_
        refine z_aload_n (i := 0) dX4_look_191 rfl rfl rfl ?_
        refine z_getI (x := s13.1 68 8) (zI_k (by decide)) f_X4_77 i_68 rfl dX4_look_192 rfl ?_
        refine z_mabs m_X4_90 dX4_look_195 (Nat.le_of_ble_eq_true rfl) rfl ?_
        refine z_iadd dX4_look_198 rfl ?_
        refine z_callSN (as := [.int (s13.1 68 9), .int ((zabs (s13.1 68 7)) + (zabs (s13.1 68 8)))]) k_X7_slopeOf m_X4_93 rfl h rfl (Nat.le_of_ble_eq_true rfl) dX4_look_199 zy200 rfl ?_
        rintro v s15 ⟨r16, rfl, hRs15, h⟩
        show zt l g (d + 1) M_X4_look 202 [.ref 68, .ref p0, .int p1, .int p2] [.int r16, .ref 68] s15 _
        refine z_putI f_X4_44 i_68 rfl (Or.inl rfl) rfl rfl dX4_look_202 rfl ?_
        refine z_iconst (v := (1 : Int32)) dX4_look_205 (by decide) rfl ?_
        exact z_ret (some (.int (zb true))) (Or.inr (Or.inl ⟨_, _, rfl, rfl, zb_nar _, dX4_look_206⟩)) zN200 ⟨_, rfl, h⟩
      · have h := zif h (by rw [c]; exact Bool.false_ne_true)
        refine z_iconst (v := (0 : Int32)) dX4_look_79 (by decide) rfl ?_
        exact z_ret (some (.int (zb false))) (Or.inr (Or.inl ⟨_, _, rfl, rfl, zb_nar _, dX4_look_80⟩)) zN200 ⟨_, rfl, h⟩
  · have h := zit h c
    refine z_iconst (v := (1 : Int32)) dX4_look_8 (by decide) rfl ?_
    refine z_goto (pn := 13) dX4_look_9 (by decide) ?_
    refine z_putI f_X4_21 i_68 rfl (Or.inl rfl) (by decide) (by decide) dX4_look_13 rfl ?_
    refine z_aload_n (i := 0) dX4_look_16 rfl rfl rfl ?_
    refine z_getI (x := (1 : Int32)) zI_eq f_X4_21 i_68 rfl dX4_look_17 rfl ?_
    refine z_if_eq (pt := 59) dX4_look_20 (by decide) rfl (fun c => absurd c (by decide)) (fun _ => ?_)
    refine z_aload_n (i := 0) dX4_look_23 rfl rfl rfl ?_
    refine z_aload_n (i := 1) dX4_look_24 rfl rfl rfl ?_
    refine z_getI (x := s.1 p0 12) (zI_k (by decide)) f_X4_25 (i_Th hp0) rfl dX4_look_25 rfl ?_
    refine z_aload_n (i := 1) dX4_look_28 rfl rfl rfl ?_
    refine z_getI (x := s.1 p0 14) (zI_k (by decide)) f_X4_28 (i_Th hp0) rfl dX4_look_29 rfl ?_
    refine z_iload_n (i := 3) dX4_look_32 rfl rfl rfl ?_
    refine z_imul dX4_look_33 rfl ?_
    refine z_bipush (v := (8 : Int32)) dX4_look_34 (by decide) rfl ?_
    refine z_fdiv m_X4_31 (by decide) dX4_look_36 (Nat.le_of_ble_eq_true rfl) rfl ?_
    refine z_iadd dX4_look_39 rfl ?_
    refine z_sipush (v := (256 : Int32)) dX4_look_40 (by decide) rfl ?_
    refine z_fmod m_X4_37 (by decide) dX4_look_43 (Nat.le_of_ble_eq_true rfl) rfl ?_
    refine z_putI f_X4_40 i_68 rfl (Or.inl rfl) rfl rfl dX4_look_46 rfl ?_
    refine z_aload_n (i := 0) dX4_look_49 rfl rfl rfl ?_
    refine z_aload_n (i := 1) dX4_look_50 rfl rfl rfl ?_
    refine z_getI (x := s.1 p0 13) ((zI_k (by decide)).trans (zI_k (by decide))) f_X4_41 (i_Th hp0) rfl dX4_look_51 rfl ?_
    refine z_putI f_X4_44 i_68 rfl (Or.inl rfl) rfl rfl dX4_look_54 rfl ?_
    refine z_iconst (v := (1 : Int32)) dX4_look_57 (by decide) rfl ?_
    exact z_ret (some (.int (zb true))) (Or.inr (Or.inl ⟨_, _, rfl, rfl, zb_nar _, dX4_look_58⟩)) zN200 ⟨_, rfl, h⟩
theorem dX4_hidingHill_0 : decode cX4_hidingHill 0 = .ok (.aload_n 0, 1) := by decide +kernel
theorem dX4_hidingHill_1 : decode cX4_hidingHill 1 = .ok (.getfield 21, 3) := by decide +kernel
theorem dX4_hidingHill_4 : decode cX4_hidingHill 4 = .ok (.ifCond .eq 5, 3) := by decide +kernel
theorem dX4_hidingHill_7 : decode cX4_hidingHill 7 = .ok (.iconst (-1), 1) := by decide +kernel
theorem dX4_hidingHill_8 : decode cX4_hidingHill 8 = .ok (.ireturn, 1) := by decide +kernel
theorem dX4_hidingHill_9 : decode cX4_hidingHill 9 = .ok (.aload_n 0, 1) := by decide +kernel
theorem dX4_hidingHill_10 : decode cX4_hidingHill 10 = .ok (.getfield 64, 3) := by decide +kernel
theorem dX4_hidingHill_13 : decode cX4_hidingHill 13 = .ok (.aload_n 0, 1) := by decide +kernel
theorem dX4_hidingHill_14 : decode cX4_hidingHill 14 = .ok (.getfield 84, 3) := by decide +kernel
theorem dX4_hidingHill_17 : decode cX4_hidingHill 17 = .ok (.iadd, 1) := by decide +kernel
theorem dX4_hidingHill_18 : decode cX4_hidingHill 18 = .ok (.aload_n 0, 1) := by decide +kernel
theorem dX4_hidingHill_19 : decode cX4_hidingHill 19 = .ok (.getfield 9, 3) := by decide +kernel
theorem dX4_hidingHill_22 : decode cX4_hidingHill 22 = .ok (.getfield 96, 3) := by decide +kernel
theorem dX4_hidingHill_25 : decode cX4_hidingHill 25 = .ok (.if_icmp .lt 7, 3) := by decide +kernel
theorem dX4_hidingHill_28 : decode cX4_hidingHill 28 = .ok (.iconst 1, 1) := by decide +kernel
theorem dX4_hidingHill_29 : decode cX4_hidingHill 29 = .ok (.goto 4, 3) := by decide +kernel
theorem dX4_hidingHill_32 : decode cX4_hidingHill 32 = .ok (.iconst 0, 1) := by decide +kernel
theorem dX4_hidingHill_33 : decode cX4_hidingHill 33 = .ok (.istore_n 1, 1) := by decide +kernel
theorem dX4_hidingHill_34 : decode cX4_hidingHill 34 = .ok (.iconst 1, 1) := by decide +kernel
theorem dX4_hidingHill_35 : decode cX4_hidingHill 35 = .ok (.istore_n 2, 1) := by decide +kernel
theorem dX4_hidingHill_36 : decode cX4_hidingHill 36 = .ok (.iload_n 2, 1) := by decide +kernel
theorem dX4_hidingHill_37 : decode cX4_hidingHill 37 = .ok (.bipush 16, 2) := by decide +kernel
theorem dX4_hidingHill_39 : decode cX4_hidingHill 39 = .ok (.if_icmp .ge 97, 3) := by decide +kernel
theorem dX4_hidingHill_42 : decode cX4_hidingHill 42 = .ok (.aload_n 0, 1) := by decide +kernel
theorem dX4_hidingHill_43 : decode cX4_hidingHill 43 = .ok (.getfield 64, 3) := by decide +kernel
theorem dX4_hidingHill_46 : decode cX4_hidingHill 46 = .ok (.aload_n 0, 1) := by decide +kernel
theorem dX4_hidingHill_47 : decode cX4_hidingHill 47 = .ok (.getfield 84, 3) := by decide +kernel
theorem dX4_hidingHill_50 : decode cX4_hidingHill 50 = .ok (.iload_n 2, 1) := by decide +kernel
theorem dX4_hidingHill_51 : decode cX4_hidingHill 51 = .ok (.imul, 1) := by decide +kernel
theorem dX4_hidingHill_52 : decode cX4_hidingHill 52 = .ok (.iconst 4, 1) := by decide +kernel
theorem dX4_hidingHill_53 : decode cX4_hidingHill 53 = .ok (.ishr, 1) := by decide +kernel
theorem dX4_hidingHill_54 : decode cX4_hidingHill 54 = .ok (.iadd, 1) := by decide +kernel
theorem dX4_hidingHill_55 : decode cX4_hidingHill 55 = .ok (.istore_n 3, 1) := by decide +kernel
theorem dX4_hidingHill_56 : decode cX4_hidingHill 56 = .ok (.iload_n 1, 1) := by decide +kernel
theorem dX4_hidingHill_57 : decode cX4_hidingHill 57 = .ok (.ifCond .eq 16, 3) := by decide +kernel
theorem dX4_hidingHill_60 : decode cX4_hidingHill 60 = .ok (.iload_n 3, 1) := by decide +kernel
theorem dX4_hidingHill_61 : decode cX4_hidingHill 61 = .ok (.aload_n 0, 1) := by decide +kernel
theorem dX4_hidingHill_62 : decode cX4_hidingHill 62 = .ok (.getfield 9, 3) := by decide +kernel
theorem dX4_hidingHill_65 : decode cX4_hidingHill 65 = .ok (.getfield 96, 3) := by decide +kernel
theorem dX4_hidingHill_68 : decode cX4_hidingHill 68 = .ok (.if_icmp .lt 5, 3) := by decide +kernel
theorem dX4_hidingHill_71 : decode cX4_hidingHill 71 = .ok (.iconst (-1), 1) := by decide +kernel
theorem dX4_hidingHill_72 : decode cX4_hidingHill 72 = .ok (.ireturn, 1) := by decide +kernel
theorem dX4_hidingHill_73 : decode cX4_hidingHill 73 = .ok (.aload_n 0, 1) := by decide +kernel
theorem dX4_hidingHill_74 : decode cX4_hidingHill 74 = .ok (.getfield 53, 3) := by decide +kernel
theorem dX4_hidingHill_77 : decode cX4_hidingHill 77 = .ok (.aload_n 0, 1) := by decide +kernel
theorem dX4_hidingHill_78 : decode cX4_hidingHill 78 = .ok (.getfield 71, 3) := by decide +kernel
theorem dX4_hidingHill_81 : decode cX4_hidingHill 81 = .ok (.iload_n 2, 1) := by decide +kernel
theorem dX4_hidingHill_82 : decode cX4_hidingHill 82 = .ok (.imul, 1) := by decide +kernel
theorem dX4_hidingHill_83 : decode cX4_hidingHill 83 = .ok (.iconst 4, 1) := by decide +kernel
theorem dX4_hidingHill_84 : decode cX4_hidingHill 84 = .ok (.ishr, 1) := by decide +kernel
theorem dX4_hidingHill_85 : decode cX4_hidingHill 85 = .ok (.iadd, 1) := by decide +kernel
theorem dX4_hidingHill_86 : decode cX4_hidingHill 86 = .ok (.istore 4, 2) := by decide +kernel
theorem dX4_hidingHill_88 : decode cX4_hidingHill 88 = .ok (.aload_n 0, 1) := by decide +kernel
theorem dX4_hidingHill_89 : decode cX4_hidingHill 89 = .ok (.getfield 56, 3) := by decide +kernel
theorem dX4_hidingHill_92 : decode cX4_hidingHill 92 = .ok (.aload_n 0, 1) := by decide +kernel
theorem dX4_hidingHill_93 : decode cX4_hidingHill 93 = .ok (.getfield 77, 3) := by decide +kernel
theorem dX4_hidingHill_96 : decode cX4_hidingHill 96 = .ok (.iload_n 2, 1) := by decide +kernel
theorem dX4_hidingHill_97 : decode cX4_hidingHill 97 = .ok (.imul, 1) := by decide +kernel
theorem dX4_hidingHill_98 : decode cX4_hidingHill 98 = .ok (.iconst 4, 1) := by decide +kernel
theorem dX4_hidingHill_99 : decode cX4_hidingHill 99 = .ok (.ishr, 1) := by decide +kernel
theorem dX4_hidingHill_100 : decode cX4_hidingHill 100 = .ok (.iadd, 1) := by decide +kernel
theorem dX4_hidingHill_101 : decode cX4_hidingHill 101 = .ok (.istore 5, 2) := by decide +kernel
theorem dX4_hidingHill_103 : decode cX4_hidingHill 103 = .ok (.aload_n 0, 1) := by decide +kernel
theorem dX4_hidingHill_104 : decode cX4_hidingHill 104 = .ok (.getfield 9, 3) := by decide +kernel
theorem dX4_hidingHill_107 : decode cX4_hidingHill 107 = .ok (.iload 4, 2) := by decide +kernel
theorem dX4_hidingHill_109 : decode cX4_hidingHill 109 = .ok (.iload 5, 2) := by decide +kernel
theorem dX4_hidingHill_111 : decode cX4_hidingHill 111 = .ok (.invokevirtual 59, 3) := by decide +kernel
theorem dX4_hidingHill_114 : decode cX4_hidingHill 114 = .ok (.iload_n 3, 1) := by decide +kernel
theorem dX4_hidingHill_115 : decode cX4_hidingHill 115 = .ok (.if_icmp .le 15, 3) := by decide +kernel
theorem dX4_hidingHill_118 : decode cX4_hidingHill 118 = .ok (.aload_n 0, 1) := by decide +kernel
theorem dX4_hidingHill_119 : decode cX4_hidingHill 119 = .ok (.getfield 9, 3) := by decide +kernel
theorem dX4_hidingHill_122 : decode cX4_hidingHill 122 = .ok (.iload 4, 2) := by decide +kernel
theorem dX4_hidingHill_124 : decode cX4_hidingHill 124 = .ok (.iload 5, 2) := by decide +kernel
theorem dX4_hidingHill_126 : decode cX4_hidingHill 126 = .ok (.invokevirtual 99, 3) := by decide +kernel
theorem dX4_hidingHill_129 : decode cX4_hidingHill 129 = .ok (.ireturn, 1) := by decide +kernel
theorem dX4_hidingHill_130 : decode cX4_hidingHill 130 = .ok (.iinc 2 1, 3) := by decide +kernel
theorem dX4_hidingHill_133 : decode cX4_hidingHill 133 = .ok (.goto (-97), 3) := by decide +kernel
theorem dX4_hidingHill_136 : decode cX4_hidingHill 136 = .ok (.iconst (-1), 1) := by decide +kernel
theorem dX4_hidingHill_137 : decode cX4_hidingHill 137 = .ok (.ireturn, 1) := by decide +kernel
set_option maxHeartbeats 4000000 in
set_option maxRecDepth 100000 in
theorem t_X4_hidingHill {l : Launch} {g : zG} {d : Nat} {s : zS} (hR : zRok s)  {K : Int32 → zS → Prop} (h : (if (s.1 68 3) = 0 then (if ((s.1 68 6) + (s.1 68 9)) < (s.1 65 2) then zt l g (d + 1) M_X4_hidingHill 36 [.ref 68, .int (0 : Int32), .int (1 : Int32), zJ, zJ, zJ] [] s (zKi K) else zt l g (d + 1) M_X4_hidingHill 36 [.ref 68, .int (1 : Int32), .int (1 : Int32), zJ, zJ, zJ] [] s (zKi K)) else K (-1 : Int32) s)) : zc l g (d + 1) M_X4_hidingHill [.ref 68] s (zKi K) := by
  refine zCall_of k_X4_hidingHill (Nat.le_of_ble_eq_true rfl) (Nat.le_refl _) (fun _ => ?_)
  show zt l g (d + 1) M_X4_hidingHill 0 [.ref 68, zJ, zJ, zJ, zJ, zJ] [] s (zKi K)
  refine z_aload_n (i := 0) dX4_hidingHill_0 rfl rfl rfl ?_
  refine z_getI (x := s.1 68 3) rfl f_X4_21 i_68 rfl dX4_hidingHill_1 rfl ?_
  refine z_if_eq (pt := 9) dX4_hidingHill_4 (by decide) rfl (fun c => ?_) (fun c => ?_)
  · have h := zit h c
    refine z_aload_n (i := 0) dX4_hidingHill_9 rfl rfl rfl ?_
    refine z_getI (x := s.1 68 6) rfl f_X4_64 i_68 rfl dX4_hidingHill_10 rfl ?_
    refine z_aload_n (i := 0) dX4_hidingHill_13 rfl rfl rfl ?_
    refine z_getI (x := s.1 68 9) rfl f_X4_84 i_68 rfl dX4_hidingHill_14 rfl ?_
    refine z_iadd dX4_hidingHill_17 rfl ?_
    refine z_aload_n (i := 0) dX4_hidingHill_18 rfl rfl rfl ?_
    refine z_getR (q := 65) f_X4_9 i_68 rfl (r_68_0 hR) (by decide) dX4_hidingHill_19 rfl ?_
    refine z_getI (x := s.1 65 2) rfl f_X4_96 i_65 rfl dX4_hidingHill_22 rfl ?_
    refine z_icmp_lt (pt := 32) dX4_hidingHill_25 (by decide) rfl (fun c => ?_) (fun c => ?_)
    · have h := zit h c
      refine z_iconst (v := (0 : Int32)) dX4_hidingHill_32 (by decide) rfl ?_
      refine z_istore_n (i := 1) dX4_hidingHill_33 rfl (by decide) (zokd rfl) rfl ?_
      show zt l g (d + 1) M_X4_hidingHill 34 [.ref 68, .int (0 : Int32), zJ, zJ, zJ, zJ] [] s _
      refine z_iconst (v := (1 : Int32)) dX4_hidingHill_34 (by decide) rfl ?_
      refine z_istore_n (i := 2) dX4_hidingHill_35 rfl (by decide) (zokd rfl) rfl ?_
      show zt l g (d + 1) M_X4_hidingHill 36 [.ref 68, .int (0 : Int32), .int (1 : Int32), zJ, zJ, zJ] [] s _
      exact h
    · have h := zif h c
      refine z_iconst (v := (1 : Int32)) dX4_hidingHill_28 (by decide) rfl ?_
      refine z_goto (pn := 33) dX4_hidingHill_29 (by decide) ?_
      refine z_istore_n (i := 1) dX4_hidingHill_33 rfl (by decide) (zokd rfl) rfl ?_
      show zt l g (d + 1) M_X4_hidingHill 34 [.ref 68, .int (1 : Int32), zJ, zJ, zJ, zJ] [] s _
      refine z_iconst (v := (1 : Int32)) dX4_hidingHill_34 (by decide) rfl ?_
      refine z_istore_n (i := 2) dX4_hidingHill_35 rfl (by decide) (zokd rfl) rfl ?_
      show zt l g (d + 1) M_X4_hidingHill 36 [.ref 68, .int (1 : Int32), .int (1 : Int32), zJ, zJ, zJ] [] s _
      exact h
  · have h := zif h c
    refine z_iconst (v := (-1 : Int32)) dX4_hidingHill_7 (by decide) rfl ?_
    exact z_ret (some (.int (-1 : Int32))) (Or.inr (Or.inl ⟨_, _, rfl, rfl, rfl, dX4_hidingHill_8⟩)) zN200 ⟨_, rfl, h⟩
set_option maxHeartbeats 4000000 in
set_option maxRecDepth 100000 in
theorem t_X4_hidingHill_36 {l : Launch} {g : zG} {d : Nat} {s : zS} (hR : zRok s) {x1 : Int32} {x2 : Int32} {K : Int32 → zS → Prop} (h : (if (16 : Int32) ≤ x2 then K (-1 : Int32) s else (∀ v1 : Int32, v1 = (s.1 68 6) + (((s.1 68 9) * x2) >>> ((4 : Int32) &&& 31)) → (if x1 = 0 then (∀ v2 : Int32, v2 = (s.1 68 4) + (((s.1 68 7) * x2) >>> ((4 : Int32) &&& 31)) → (∀ v3 : Int32, v3 = (s.1 68 5) + (((s.1 68 8) * x2) >>> ((4 : Int32) &&& 31)) → (zc l g d M_X1_groundAt [.ref 65, .int v2, .int v3] s (zKi (fun r5 s4 => s4.2.2.1 = s.2.2.1 ∧ (if r5 ≤ v1 then zt l g (d + 1) M_X4_hidingHill 36 [.ref 68, .int x1, .int (x2 + (1 : Int32)), zJ, zJ, zJ] [] s4 (zKi K) else (zc l g d M_X1_makerAt [.ref 65, .int v2, .int v3] s4 (zKi (fun r7 s6 => s6.2.2.1 = s4.2.2.1 ∧ K r7 s6))))))))) else (if v1 < (s.1 65 2) then (∀ v8 : Int32, v8 = (s.1 68 4) + (((s.1 68 7) * x2) >>> ((4 : Int32) &&& 31)) → (∀ v9 : Int32, v9 = (s.1 68 5) + (((s.1 68 8) * x2) >>> ((4 : Int32) &&& 31)) → (zc l g d M_X1_groundAt [.ref 65, .int v8, .int v9] s (zKi (fun r11 s10 => s10.2.2.1 = s.2.2.1 ∧ (if r11 ≤ v1 then zt l g (d + 1) M_X4_hidingHill 36 [.ref 68, .int x1, .int (x2 + (1 : Int32)), zJ, zJ, zJ] [] s10 (zKi K) else (zc l g d M_X1_makerAt [.ref 65, .int v8, .int v9] s10 (zKi (fun r13 s12 => s12.2.2.1 = s10.2.2.1 ∧ K r13 s12))))))))) else K (-1 : Int32) s))))) : zt l g (d + 1) M_X4_hidingHill 36 [.ref 68, .int x1, .int x2, zJ, zJ, zJ] [] s (zKi K) := by
  refine z_iload_n (i := 2) dX4_hidingHill_36 rfl rfl rfl ?_
  refine z_bipush (v := (16 : Int32)) dX4_hidingHill_37 (by decide) rfl ?_
  refine z_icmp_ge (pt := 136) dX4_hidingHill_39 (by decide) rfl (fun c => ?_) (fun c => ?_)
  · have h := zit h c
    refine z_iconst (v := (-1 : Int32)) dX4_hidingHill_136 (by decide) rfl ?_
    exact z_ret (some (.int (-1 : Int32))) (Or.inr (Or.inl ⟨_, _, rfl, rfl, rfl, dX4_hidingHill_137⟩)) zN200 ⟨_, rfl, h⟩
  · have h := zif h c
    refine z_aload_n (i := 0) dX4_hidingHill_42 rfl rfl rfl ?_
    refine z_getI (x := s.1 68 6) rfl f_X4_64 i_68 rfl dX4_hidingHill_43 rfl ?_
    refine z_aload_n (i := 0) dX4_hidingHill_46 rfl rfl rfl ?_
    refine z_getI (x := s.1 68 9) rfl f_X4_84 i_68 rfl dX4_hidingHill_47 rfl ?_
    refine z_iload_n (i := 2) dX4_hidingHill_50 rfl rfl rfl ?_
    refine z_imul dX4_hidingHill_51 rfl ?_
    refine z_iconst (v := (4 : Int32)) dX4_hidingHill_52 (by decide) rfl ?_
    refine z_ishr dX4_hidingHill_53 rfl ?_
    refine z_iadd dX4_hidingHill_54 rfl ?_
    refine z_istore_n (i := 3) dX4_hidingHill_55 rfl (by decide) (zokd rfl) rfl ?_
    obtain ⟨v1, ev1⟩ : ∃ x : Int32, x = (s.1 68 6) + (((s.1 68 9) * x2) >>> ((4 : Int32) &&& 31)) := ⟨_, rfl⟩
    rw [← ev1]
    have h := h v1 ev1
    show zt l g (d + 1) M_X4_hidingHill 56 [.ref 68, .int x1, .int x2, .int v1, zJ, zJ] [] s _
    refine z_iload_n (i := 1) dX4_hidingHill_56 rfl rfl rfl ?_
    refine z_if_eq (pt := 73) dX4_hidingHill_57 (by decide) rfl (fun c => ?_) (fun c => ?_)
    · have h := zit h c
      refine z_aload_n (i := 0) dX4_hidingHill_73 rfl rfl rfl ?_
      refine z_getI (x := s.1 68 4) rfl f_X4_53 i_68 rfl dX4_hidingHill_74 rfl ?_
      refine z_aload_n (i := 0) dX4_hidingHill_77 rfl rfl rfl ?_
      refine z_getI (x := s.1 68 7) rfl f_X4_71 i_68 rfl dX4_hidingHill_78 rfl ?_
      refine z_iload_n (i := 2) dX4_hidingHill_81 rfl rfl rfl ?_
      refine z_imul dX4_hidingHill_82 rfl ?_
      refine z_iconst (v := (4 : Int32)) dX4_hidingHill_83 (by decide) rfl ?_
      refine z_ishr dX4_hidingHill_84 rfl ?_
      refine z_iadd dX4_hidingHill_85 rfl ?_
      refine z_istore dX4_hidingHill_86 (by decide) (zokd rfl) rfl ?_
      obtain ⟨v2, ev2⟩ : ∃ x : Int32, x = (s.1 68 4) + (((s.1 68 7) * x2) >>> ((4 : Int32) &&& 31)) := ⟨_, rfl⟩
      rw [← ev2]
      have h := h v2 ev2
      show zt l g (d + 1) M_X4_hidingHill 88 [.ref 68, .int x1, .int x2, .int v1, .int v2, zJ] [] s _
      refine z_aload_n (i := 0) dX4_hidingHill_88 rfl rfl rfl ?_
      refine z_getI (x := s.1 68 5) rfl f_X4_56 i_68 rfl dX4_hidingHill_89 rfl ?_
      refine z_aload_n (i := 0) dX4_hidingHill_92 rfl rfl rfl ?_
      refine z_getI (x := s.1 68 8) rfl f_X4_77 i_68 rfl dX4_hidingHill_93 rfl ?_
      refine z_iload_n (i := 2) dX4_hidingHill_96 rfl rfl rfl ?_
      refine z_imul dX4_hidingHill_97 rfl ?_
      refine z_iconst (v := (4 : Int32)) dX4_hidingHill_98 (by decide) rfl ?_
      refine z_ishr dX4_hidingHill_99 rfl ?_
      refine z_iadd dX4_hidingHill_100 rfl ?_
      refine z_istore dX4_hidingHill_101 (by decide) (zokd rfl) rfl ?_
      obtain ⟨v3, ev3⟩ : ∃ x : Int32, x = (s.1 68 5) + (((s.1 68 8) * x2) >>> ((4 : Int32) &&& 31)) := ⟨_, rfl⟩
      rw [← ev3]
      have h := h v3 ev3
      show zt l g (d + 1) M_X4_hidingHill 103 [.ref 68, .int x1, .int x2, .int v1, .int v2, .int v3] [] s _
      refine z_aload_n (i := 0) dX4_hidingHill_103 rfl rfl rfl ?_
      refine z_getR (q := 65) f_X4_9 i_68 rfl (r_68_0 hR) (by decide) dX4_hidingHill_104 rfl ?_
      refine z_iload dX4_hidingHill_107 rfl rfl ?_
      refine z_iload dX4_hidingHill_109 rfl rfl ?_
      refine z_callV k_X1_groundAt m_X4_59 (zRec_of i_65) rfl h rfl (Nat.le_of_ble_eq_true rfl) dX4_hidingHill_111 zy200 rfl ?_
      rintro v s4 ⟨r5, rfl, hRs4, h⟩
      show zt l g (d + 1) M_X4_hidingHill 114 [.ref 68, .int x1, .int x2, .int v1, .int v2, .int v3] [.int r5] s4 _
      refine z_iload_n (i := 3) dX4_hidingHill_114 rfl rfl rfl ?_
      refine z_icmp_le (pt := 130) dX4_hidingHill_115 (by decide) rfl (fun c => ?_) (fun c => ?_)
      · have h := zit h c
        refine z_iinc (v := x2 + (1 : Int32)) dX4_hidingHill_130 rfl rfl (by decide) (zokd rfl) rfl ?_
        show zt l g (d + 1) M_X4_hidingHill 133 [.ref 68, .int x1, .int (x2 + (1 : Int32)), .int v1, .int v2, .int v3] [] s4 _
        refine z_goto (pn := 36) dX4_hidingHill_133 (by decide) ?_
        refine z_wk (ls' := [.ref 68, .int x1, .int (x2 + (1 : Int32)), zJ, zJ, zJ]) ⟨Or.inr rfl, Or.inr rfl, Or.inr rfl, Or.inl rfl, Or.inl rfl, Or.inl rfl, trivial⟩ ?_
        exact h
      · have h := zif h c
        refine z_aload_n (i := 0) dX4_hidingHill_118 rfl rfl rfl ?_
        refine z_getR (q := 65) f_X4_9 i_68 rfl (r_68_0 (zRok_of hRs4 hR)) (by decide) dX4_hidingHill_119 rfl ?_
        refine z_iload dX4_hidingHill_122 rfl rfl ?_
        refine z_iload dX4_hidingHill_124 rfl rfl ?_
        refine z_callV k_X1_makerAt m_X4_99 (zRec_of i_65) rfl h rfl (Nat.le_of_ble_eq_true rfl) dX4_hidingHill_126 zy200 rfl ?_
        rintro v s6 ⟨r7, rfl, hRs6, h⟩
        show zt l g (d + 1) M_X4_hidingHill 129 [.ref 68, .int x1, .int x2, .int v1, .int v2, .int v3] [.int r7] s6 _
        exact z_ret (some (.int r7)) (Or.inr (Or.inl ⟨_, _, rfl, rfl, rfl, dX4_hidingHill_129⟩)) zN200 ⟨_, rfl, h⟩
    · have h := zif h c
      refine z_iload_n (i := 3) dX4_hidingHill_60 rfl rfl rfl ?_
      refine z_aload_n (i := 0) dX4_hidingHill_61 rfl rfl rfl ?_
      refine z_getR (q := 65) f_X4_9 i_68 rfl (r_68_0 hR) (by decide) dX4_hidingHill_62 rfl ?_
      refine z_getI (x := s.1 65 2) rfl f_X4_96 i_65 rfl dX4_hidingHill_65 rfl ?_
      refine z_icmp_lt (pt := 73) dX4_hidingHill_68 (by decide) rfl (fun c => ?_) (fun c => ?_)
      · have h := zit h c
        refine z_aload_n (i := 0) dX4_hidingHill_73 rfl rfl rfl ?_
        refine z_getI (x := s.1 68 4) rfl f_X4_53 i_68 rfl dX4_hidingHill_74 rfl ?_
        refine z_aload_n (i := 0) dX4_hidingHill_77 rfl rfl rfl ?_
        refine z_getI (x := s.1 68 7) rfl f_X4_71 i_68 rfl dX4_hidingHill_78 rfl ?_
        refine z_iload_n (i := 2) dX4_hidingHill_81 rfl rfl rfl ?_
        refine z_imul dX4_hidingHill_82 rfl ?_
        refine z_iconst (v := (4 : Int32)) dX4_hidingHill_83 (by decide) rfl ?_
        refine z_ishr dX4_hidingHill_84 rfl ?_
        refine z_iadd dX4_hidingHill_85 rfl ?_
        refine z_istore dX4_hidingHill_86 (by decide) (zokd rfl) rfl ?_
        obtain ⟨v8, ev8⟩ : ∃ x : Int32, x = (s.1 68 4) + (((s.1 68 7) * x2) >>> ((4 : Int32) &&& 31)) := ⟨_, rfl⟩
        rw [← ev8]
        have h := h v8 ev8
        show zt l g (d + 1) M_X4_hidingHill 88 [.ref 68, .int x1, .int x2, .int v1, .int v8, zJ] [] s _
        refine z_aload_n (i := 0) dX4_hidingHill_88 rfl rfl rfl ?_
        refine z_getI (x := s.1 68 5) rfl f_X4_56 i_68 rfl dX4_hidingHill_89 rfl ?_
        refine z_aload_n (i := 0) dX4_hidingHill_92 rfl rfl rfl ?_
        refine z_getI (x := s.1 68 8) rfl f_X4_77 i_68 rfl dX4_hidingHill_93 rfl ?_
        refine z_iload_n (i := 2) dX4_hidingHill_96 rfl rfl rfl ?_
        refine z_imul dX4_hidingHill_97 rfl ?_
        refine z_iconst (v := (4 : Int32)) dX4_hidingHill_98 (by decide) rfl ?_
        refine z_ishr dX4_hidingHill_99 rfl ?_
        refine z_iadd dX4_hidingHill_100 rfl ?_
        refine z_istore dX4_hidingHill_101 (by decide) (zokd rfl) rfl ?_
        obtain ⟨v9, ev9⟩ : ∃ x : Int32, x = (s.1 68 5) + (((s.1 68 8) * x2) >>> ((4 : Int32) &&& 31)) := ⟨_, rfl⟩
        rw [← ev9]
        have h := h v9 ev9
        show zt l g (d + 1) M_X4_hidingHill 103 [.ref 68, .int x1, .int x2, .int v1, .int v8, .int v9] [] s _
        refine z_aload_n (i := 0) dX4_hidingHill_103 rfl rfl rfl ?_
        refine z_getR (q := 65) f_X4_9 i_68 rfl (r_68_0 hR) (by decide) dX4_hidingHill_104 rfl ?_
        refine z_iload dX4_hidingHill_107 rfl rfl ?_
        refine z_iload dX4_hidingHill_109 rfl rfl ?_
        refine z_callV k_X1_groundAt m_X4_59 (zRec_of i_65) rfl h rfl (Nat.le_of_ble_eq_true rfl) dX4_hidingHill_111 zy200 rfl ?_
        rintro v s10 ⟨r11, rfl, hRs10, h⟩
        show zt l g (d + 1) M_X4_hidingHill 114 [.ref 68, .int x1, .int x2, .int v1, .int v8, .int v9] [.int r11] s10 _
        refine z_iload_n (i := 3) dX4_hidingHill_114 rfl rfl rfl ?_
        refine z_icmp_le (pt := 130) dX4_hidingHill_115 (by decide) rfl (fun c => ?_) (fun c => ?_)
        · have h := zit h c
          refine z_iinc (v := x2 + (1 : Int32)) dX4_hidingHill_130 rfl rfl (by decide) (zokd rfl) rfl ?_
          show zt l g (d + 1) M_X4_hidingHill 133 [.ref 68, .int x1, .int (x2 + (1 : Int32)), .int v1, .int v8, .int v9] [] s10 _
          refine z_goto (pn := 36) dX4_hidingHill_133 (by decide) ?_
          refine z_wk (ls' := [.ref 68, .int x1, .int (x2 + (1 : Int32)), zJ, zJ, zJ]) ⟨Or.inr rfl, Or.inr rfl, Or.inr rfl, Or.inl rfl, Or.inl rfl, Or.inl rfl, trivial⟩ ?_
          exact h
        · have h := zif h c
          refine z_aload_n (i := 0) dX4_hidingHill_118 rfl rfl rfl ?_
          refine z_getR (q := 65) f_X4_9 i_68 rfl (r_68_0 (zRok_of hRs10 hR)) (by decide) dX4_hidingHill_119 rfl ?_
          refine z_iload dX4_hidingHill_122 rfl rfl ?_
          refine z_iload dX4_hidingHill_124 rfl rfl ?_
          refine z_callV k_X1_makerAt m_X4_99 (zRec_of i_65) rfl h rfl (Nat.le_of_ble_eq_true rfl) dX4_hidingHill_126 zy200 rfl ?_
          rintro v s12 ⟨r13, rfl, hRs12, h⟩
          show zt l g (d + 1) M_X4_hidingHill 129 [.ref 68, .int x1, .int x2, .int v1, .int v8, .int v9] [.int r13] s12 _
          exact z_ret (some (.int r13)) (Or.inr (Or.inl ⟨_, _, rfl, rfl, rfl, dX4_hidingHill_129⟩)) zN200 ⟨_, rfl, h⟩
      · have h := zif h c
        refine z_iconst (v := (-1 : Int32)) dX4_hidingHill_71 (by decide) rfl ?_
        exact z_ret (some (.int (-1 : Int32))) (Or.inr (Or.inl ⟨_, _, rfl, rfl, rfl, dX4_hidingHill_72⟩)) zN200 ⟨_, rfl, h⟩
theorem dX4_shows_0 : decode cX4_shows 0 = .ok (.aload_n 0, 1) := by decide +kernel
theorem dX4_shows_1 : decode cX4_shows 1 = .ok (.aload_n 1, 1) := by decide +kernel
theorem dX4_shows_2 : decode cX4_shows 2 = .ok (.iload_n 2, 1) := by decide +kernel
theorem dX4_shows_3 : decode cX4_shows 3 = .ok (.iload_n 3, 1) := by decide +kernel
theorem dX4_shows_4 : decode cX4_shows 4 = .ok (.invokevirtual 102, 3) := by decide +kernel
theorem dX4_shows_7 : decode cX4_shows 7 = .ok (.ifCond .eq 15, 3) := by decide +kernel
theorem dX4_shows_10 : decode cX4_shows 10 = .ok (.aload_n 0, 1) := by decide +kernel
theorem dX4_shows_11 : decode cX4_shows 11 = .ok (.invokevirtual 106, 3) := by decide +kernel
theorem dX4_shows_14 : decode cX4_shows 14 = .ok (.iconst (-1), 1) := by decide +kernel
theorem dX4_shows_15 : decode cX4_shows 15 = .ok (.if_icmp .ne 7, 3) := by decide +kernel
theorem dX4_shows_18 : decode cX4_shows 18 = .ok (.iconst 1, 1) := by decide +kernel
theorem dX4_shows_19 : decode cX4_shows 19 = .ok (.goto 4, 3) := by decide +kernel
theorem dX4_shows_22 : decode cX4_shows 22 = .ok (.iconst 0, 1) := by decide +kernel
theorem dX4_shows_23 : decode cX4_shows 23 = .ok (.ireturn, 1) := by decide +kernel
set_option maxHeartbeats 4000000 in
set_option maxRecDepth 100000 in
theorem t_X4_shows {l : Launch} {g : zG} {d : Nat} {s : zS} (hR : zRok s) {p0 : Nat} (hp0 : 92 ≤ p0 ∧ p0 < 104) {p1 : Int32} {p2 : Int32} {K : Bool → zS → Prop} (h : (zc l g d M_X4_look [.ref 68, .ref p0, .int p1, .int p2] s (zKz (fun b2 s1 => s1.2.2.1 = s.2.2.1 ∧ (if b2 = true then (zc l g d M_X4_hidingHill [.ref 68] s1 (zKi (fun r4 s3 => s3.2.2.1 = s1.2.2.1 ∧ (if r4 = (-1 : Int32) then K true s3 else K false s3)))) else K false s1))))) : zc l g (d + 1) M_X4_shows [.ref 68, .ref p0, .int p1, .int p2] s (zKz K) := by
  refine zCall_of k_X4_shows (Nat.le_of_ble_eq_true rfl) (Nat.le_refl _) (fun _ => ?_)
  show zt l g (d + 1) M_X4_shows 0 [.ref 68, .ref p0, .int p1, .int p2] [] s (zKz K)
  refine z_aload_n (i := 0) dX4_shows_0 rfl rfl rfl ?_
  refine z_aload_n (i := 1) dX4_shows_1 rfl rfl rfl ?_
  refine z_iload_n (i := 2) dX4_shows_2 rfl rfl rfl ?_
  refine z_iload_n (i := 3) dX4_shows_3 rfl rfl rfl ?_
  refine z_callV k_X4_look m_X4_102 (zRec_of i_68) rfl h rfl (Nat.le_of_ble_eq_true rfl) dX4_shows_4 zy200 rfl ?_
  rintro v s1 ⟨b2, rfl, hRs1, h⟩
  show zt l g (d + 1) M_X4_shows 7 [.ref 68, .ref p0, .int p1, .int p2] [.int (zb b2)] s1 _
  refine z_ifb_eq (pt := 22) dX4_shows_7 (by decide) rfl (fun c => ?_) (fun c => ?_)
  · have h := zif h (by rw [c]; exact Bool.false_ne_true)
    refine z_iconst (v := (0 : Int32)) dX4_shows_22 (by decide) rfl ?_
    exact z_ret (some (.int (zb false))) (Or.inr (Or.inl ⟨_, _, rfl, rfl, zb_nar _, dX4_shows_23⟩)) zN200 ⟨_, rfl, h⟩
  · have h := zit h c
    refine z_aload_n (i := 0) dX4_shows_10 rfl rfl rfl ?_
    refine z_callV k_X4_hidingHill m_X4_106 (zRec_of i_68) rfl h rfl (Nat.le_of_ble_eq_true rfl) dX4_shows_11 zy200 rfl ?_
    rintro v s3 ⟨r4, rfl, hRs3, h⟩
    show zt l g (d + 1) M_X4_shows 14 [.ref 68, .ref p0, .int p1, .int p2] [.int r4] s3 _
    refine z_iconst (v := (-1 : Int32)) dX4_shows_14 (by decide) rfl ?_
    refine z_icmp_ne (pt := 22) dX4_shows_15 (by decide) rfl (fun c => ?_) (fun c => ?_)
    · have h := zif h c
      refine z_iconst (v := (0 : Int32)) dX4_shows_22 (by decide) rfl ?_
      exact z_ret (some (.int (zb false))) (Or.inr (Or.inl ⟨_, _, rfl, rfl, zb_nar _, dX4_shows_23⟩)) zN200 ⟨_, rfl, h⟩
    · have h := zit h c
      refine z_iconst (v := (1 : Int32)) dX4_shows_18 (by decide) rfl ?_
      refine z_goto (pn := 23) dX4_shows_19 (by decide) ?_
      exact z_ret (some (.int (zb true))) (Or.inr (Or.inl ⟨_, _, rfl, rfl, zb_nar _, dX4_shows_23⟩)) zN200 ⟨_, rfl, h⟩
theorem dX5_part_0 : decode cX5_part 0 = .ok (.iload_n 1, 1) := by decide +kernel
theorem dX5_part_1 : decode cX5_part 1 = .ok (.tableswitch 96 0 8 #[51, 56, 61, 66, 71, 76, 81, 86, 91], 51) := by decide +kernel
theorem dX5_part_52 : decode cX5_part 52 = .ok (.aload_n 0, 1) := by decide +kernel
theorem dX5_part_53 : decode cX5_part 53 = .ok (.getfield 9, 3) := by decide +kernel
theorem dX5_part_56 : decode cX5_part 56 = .ok (.ireturn, 1) := by decide +kernel
theorem dX5_part_57 : decode cX5_part 57 = .ok (.aload_n 0, 1) := by decide +kernel
theorem dX5_part_58 : decode cX5_part 58 = .ok (.getfield 15, 3) := by decide +kernel
theorem dX5_part_61 : decode cX5_part 61 = .ok (.ireturn, 1) := by decide +kernel
theorem dX5_part_62 : decode cX5_part 62 = .ok (.aload_n 0, 1) := by decide +kernel
theorem dX5_part_63 : decode cX5_part 63 = .ok (.getfield 18, 3) := by decide +kernel
theorem dX5_part_66 : decode cX5_part 66 = .ok (.ireturn, 1) := by decide +kernel
theorem dX5_part_67 : decode cX5_part 67 = .ok (.aload_n 0, 1) := by decide +kernel
theorem dX5_part_68 : decode cX5_part 68 = .ok (.getfield 21, 3) := by decide +kernel
theorem dX5_part_71 : decode cX5_part 71 = .ok (.ireturn, 1) := by decide +kernel
theorem dX5_part_72 : decode cX5_part 72 = .ok (.aload_n 0, 1) := by decide +kernel
theorem dX5_part_73 : decode cX5_part 73 = .ok (.getfield 24, 3) := by decide +kernel
theorem dX5_part_76 : decode cX5_part 76 = .ok (.ireturn, 1) := by decide +kernel
theorem dX5_part_77 : decode cX5_part 77 = .ok (.aload_n 0, 1) := by decide +kernel
theorem dX5_part_78 : decode cX5_part 78 = .ok (.getfield 27, 3) := by decide +kernel
theorem dX5_part_81 : decode cX5_part 81 = .ok (.ireturn, 1) := by decide +kernel
theorem dX5_part_82 : decode cX5_part 82 = .ok (.aload_n 0, 1) := by decide +kernel
theorem dX5_part_83 : decode cX5_part 83 = .ok (.getfield 30, 3) := by decide +kernel
theorem dX5_part_86 : decode cX5_part 86 = .ok (.ireturn, 1) := by decide +kernel
theorem dX5_part_87 : decode cX5_part 87 = .ok (.aload_n 0, 1) := by decide +kernel
theorem dX5_part_88 : decode cX5_part 88 = .ok (.getfield 33, 3) := by decide +kernel
theorem dX5_part_91 : decode cX5_part 91 = .ok (.ireturn, 1) := by decide +kernel
theorem dX5_part_92 : decode cX5_part 92 = .ok (.aload_n 0, 1) := by decide +kernel
theorem dX5_part_93 : decode cX5_part 93 = .ok (.getfield 36, 3) := by decide +kernel
theorem dX5_part_96 : decode cX5_part 96 = .ok (.ireturn, 1) := by decide +kernel
theorem dX5_part_97 : decode cX5_part 97 = .ok (.iconst (-1), 1) := by decide +kernel
theorem dX5_part_98 : decode cX5_part 98 = .ok (.ireturn, 1) := by decide +kernel
set_option maxHeartbeats 4000000 in
set_option maxRecDepth 100000 in
theorem t_X5_part {l : Launch} {g : zG} {d : Nat} {s : zS} (hR : zRok s) {o : Nat} (ho : 104 ≤ o ∧ o < 164) {p0 : Int32} {K : Int32 → zS → Prop} (h : (if p0 = (0 : Int32) then K (s.1 o 0) s else (if p0 = (1 : Int32) then K (s.1 o 1) s else (if p0 = (2 : Int32) then K (s.1 o 2) s else (if p0 = (3 : Int32) then K (s.1 o 3) s else (if p0 = (4 : Int32) then K (s.1 o 4) s else (if p0 = (5 : Int32) then K (s.1 o 5) s else (if p0 = (6 : Int32) then K (s.1 o 6) s else (if p0 = (7 : Int32) then K (s.1 o 7) s else (if p0 = (8 : Int32) then K (s.1 o 8) s else K (-1 : Int32) s)))))))))) : zc l g d M_X5_part [.ref o, .int p0] s (zKi K) := by
  refine zCall_of k_X5_part (Nat.le_of_ble_eq_true rfl) (Nat.le_refl _) (fun _ => ?_)
  show zt l g d M_X5_part 0 [.ref o, .int p0] [] s (zKi K)
  refine z_iload_n (i := 1) dX5_part_0 rfl rfl rfl ?_
  by_cases c0 : p0 = (0 : Int32)
  · have h := zit h c0
    refine z_tableIn (pt := 52) dX5_part_1 (by rw [c0]; decide) (by rw [c0]; decide) (by rw [c0]; rfl) (by decide) ?_
    refine z_aload_n (i := 0) dX5_part_52 rfl rfl rfl ?_
    refine z_getI (x := s.1 o 0) rfl f_X5_9 (i_Te ho) rfl dX5_part_53 rfl ?_
    exact z_ret (some (.int (s.1 o 0))) (Or.inr (Or.inl ⟨_, _, rfl, rfl, rfl, dX5_part_56⟩)) zN200 ⟨_, rfl, h⟩
  have h := zif h c0
  by_cases c1 : p0 = (1 : Int32)
  · have h := zit h c1
    refine z_tableIn (pt := 57) dX5_part_1 (by rw [c1]; decide) (by rw [c1]; decide) (by rw [c1]; rfl) (by decide) ?_
    refine z_aload_n (i := 0) dX5_part_57 rfl rfl rfl ?_
    refine z_getI (x := s.1 o 1) rfl f_X5_15 (i_Te ho) rfl dX5_part_58 rfl ?_
    exact z_ret (some (.int (s.1 o 1))) (Or.inr (Or.inl ⟨_, _, rfl, rfl, rfl, dX5_part_61⟩)) zN200 ⟨_, rfl, h⟩
  have h := zif h c1
  by_cases c2 : p0 = (2 : Int32)
  · have h := zit h c2
    refine z_tableIn (pt := 62) dX5_part_1 (by rw [c2]; decide) (by rw [c2]; decide) (by rw [c2]; rfl) (by decide) ?_
    refine z_aload_n (i := 0) dX5_part_62 rfl rfl rfl ?_
    refine z_getI (x := s.1 o 2) rfl f_X5_18 (i_Te ho) rfl dX5_part_63 rfl ?_
    exact z_ret (some (.int (s.1 o 2))) (Or.inr (Or.inl ⟨_, _, rfl, rfl, rfl, dX5_part_66⟩)) zN200 ⟨_, rfl, h⟩
  have h := zif h c2
  by_cases c3 : p0 = (3 : Int32)
  · have h := zit h c3
    refine z_tableIn (pt := 67) dX5_part_1 (by rw [c3]; decide) (by rw [c3]; decide) (by rw [c3]; rfl) (by decide) ?_
    refine z_aload_n (i := 0) dX5_part_67 rfl rfl rfl ?_
    refine z_getI (x := s.1 o 3) rfl f_X5_21 (i_Te ho) rfl dX5_part_68 rfl ?_
    exact z_ret (some (.int (s.1 o 3))) (Or.inr (Or.inl ⟨_, _, rfl, rfl, rfl, dX5_part_71⟩)) zN200 ⟨_, rfl, h⟩
  have h := zif h c3
  by_cases c4 : p0 = (4 : Int32)
  · have h := zit h c4
    refine z_tableIn (pt := 72) dX5_part_1 (by rw [c4]; decide) (by rw [c4]; decide) (by rw [c4]; rfl) (by decide) ?_
    refine z_aload_n (i := 0) dX5_part_72 rfl rfl rfl ?_
    refine z_getI (x := s.1 o 4) rfl f_X5_24 (i_Te ho) rfl dX5_part_73 rfl ?_
    exact z_ret (some (.int (s.1 o 4))) (Or.inr (Or.inl ⟨_, _, rfl, rfl, rfl, dX5_part_76⟩)) zN200 ⟨_, rfl, h⟩
  have h := zif h c4
  by_cases c5 : p0 = (5 : Int32)
  · have h := zit h c5
    refine z_tableIn (pt := 77) dX5_part_1 (by rw [c5]; decide) (by rw [c5]; decide) (by rw [c5]; rfl) (by decide) ?_
    refine z_aload_n (i := 0) dX5_part_77 rfl rfl rfl ?_
    refine z_getI (x := s.1 o 5) rfl f_X5_27 (i_Te ho) rfl dX5_part_78 rfl ?_
    exact z_ret (some (.int (s.1 o 5))) (Or.inr (Or.inl ⟨_, _, rfl, rfl, rfl, dX5_part_81⟩)) zN200 ⟨_, rfl, h⟩
  have h := zif h c5
  by_cases c6 : p0 = (6 : Int32)
  · have h := zit h c6
    refine z_tableIn (pt := 82) dX5_part_1 (by rw [c6]; decide) (by rw [c6]; decide) (by rw [c6]; rfl) (by decide) ?_
    refine z_aload_n (i := 0) dX5_part_82 rfl rfl rfl ?_
    refine z_getI (x := s.1 o 6) rfl f_X5_30 (i_Te ho) rfl dX5_part_83 rfl ?_
    exact z_ret (some (.int (s.1 o 6))) (Or.inr (Or.inl ⟨_, _, rfl, rfl, rfl, dX5_part_86⟩)) zN200 ⟨_, rfl, h⟩
  have h := zif h c6
  by_cases c7 : p0 = (7 : Int32)
  · have h := zit h c7
    refine z_tableIn (pt := 87) dX5_part_1 (by rw [c7]; decide) (by rw [c7]; decide) (by rw [c7]; rfl) (by decide) ?_
    refine z_aload_n (i := 0) dX5_part_87 rfl rfl rfl ?_
    refine z_getI (x := s.1 o 7) rfl f_X5_33 (i_Te ho) rfl dX5_part_88 rfl ?_
    exact z_ret (some (.int (s.1 o 7))) (Or.inr (Or.inl ⟨_, _, rfl, rfl, rfl, dX5_part_91⟩)) zN200 ⟨_, rfl, h⟩
  have h := zif h c7
  by_cases c8 : p0 = (8 : Int32)
  · have h := zit h c8
    refine z_tableIn (pt := 92) dX5_part_1 (by rw [c8]; decide) (by rw [c8]; decide) (by rw [c8]; rfl) (by decide) ?_
    refine z_aload_n (i := 0) dX5_part_92 rfl rfl rfl ?_
    refine z_getI (x := s.1 o 8) rfl f_X5_36 (i_Te ho) rfl dX5_part_93 rfl ?_
    exact z_ret (some (.int (s.1 o 8))) (Or.inr (Or.inl ⟨_, _, rfl, rfl, rfl, dX5_part_96⟩)) zN200 ⟨_, rfl, h⟩
  have h := zif h c8
  refine z_tableOut (pt := 97) dX5_part_1 (z_swout 0 9 (fun j hj => ?_)) (by decide) ?_
  · rcases (show j = 0 ∨ j = 1 ∨ j = 2 ∨ j = 3 ∨ j = 4 ∨ j = 5 ∨ j = 6 ∨ j = 7 ∨ j = 8 by omega) with rfl | rfl | rfl | rfl | rfl | rfl | rfl | rfl | rfl
    · exact c0
    · exact c1
    · exact c2
    · exact c3
    · exact c4
    · exact c5
    · exact c6
    · exact c7
    · exact c8
  · refine z_iconst (v := (-1 : Int32)) dX5_part_97 (by decide) rfl ?_
    exact z_ret (some (.int (-1 : Int32))) (Or.inr (Or.inl ⟨_, _, rfl, rfl, rfl, dX5_part_98⟩)) zN200 ⟨_, rfl, h⟩
theorem dX6_isThere_0 : decode cX6_isThere 0 = .ok (.aload_n 0, 1) := by decide +kernel
theorem dX6_isThere_1 : decode cX6_isThere 1 = .ok (.getfield 18, 3) := by decide +kernel
theorem dX6_isThere_4 : decode cX6_isThere 4 = .ok (.ifCond .eq 19, 3) := by decide +kernel
theorem dX6_isThere_7 : decode cX6_isThere 7 = .ok (.iload_n 1, 1) := by decide +kernel
theorem dX6_isThere_8 : decode cX6_isThere 8 = .ok (.aload_n 0, 1) := by decide +kernel
theorem dX6_isThere_9 : decode cX6_isThere 9 = .ok (.getfield 21, 3) := by decide +kernel
theorem dX6_isThere_12 : decode cX6_isThere 12 = .ok (.if_icmp .lt 11, 3) := by decide +kernel
theorem dX6_isThere_15 : decode cX6_isThere 15 = .ok (.iload_n 1, 1) := by decide +kernel
theorem dX6_isThere_16 : decode cX6_isThere 16 = .ok (.aload_n 0, 1) := by decide +kernel
theorem dX6_isThere_17 : decode cX6_isThere 17 = .ok (.getfield 24, 3) := by decide +kernel
theorem dX6_isThere_20 : decode cX6_isThere 20 = .ok (.if_icmp .le 5, 3) := by decide +kernel
theorem dX6_isThere_23 : decode cX6_isThere 23 = .ok (.iconst 0, 1) := by decide +kernel
theorem dX6_isThere_24 : decode cX6_isThere 24 = .ok (.ireturn, 1) := by decide +kernel
theorem dX6_isThere_25 : decode cX6_isThere 25 = .ok (.aload_n 0, 1) := by decide +kernel
theorem dX6_isThere_26 : decode cX6_isThere 26 = .ok (.getfield 18, 3) := by decide +kernel
theorem dX6_isThere_29 : decode cX6_isThere 29 = .ok (.iconst 2, 1) := by decide +kernel
theorem dX6_isThere_30 : decode cX6_isThere 30 = .ok (.if_icmp .ne 34, 3) := by decide +kernel
theorem dX6_isThere_33 : decode cX6_isThere 33 = .ok (.aload_n 0, 1) := by decide +kernel
theorem dX6_isThere_34 : decode cX6_isThere 34 = .ok (.getfield 27, 3) := by decide +kernel
theorem dX6_isThere_37 : decode cX6_isThere 37 = .ok (.aload_n 0, 1) := by decide +kernel
theorem dX6_isThere_38 : decode cX6_isThere 38 = .ok (.getfield 30, 3) := by decide +kernel
theorem dX6_isThere_41 : decode cX6_isThere 41 = .ok (.iload_n 1, 1) := by decide +kernel
theorem dX6_isThere_42 : decode cX6_isThere 42 = .ok (.aload_n 0, 1) := by decide +kernel
theorem dX6_isThere_43 : decode cX6_isThere 43 = .ok (.getfield 21, 3) := by decide +kernel
theorem dX6_isThere_46 : decode cX6_isThere 46 = .ok (.isub, 1) := by decide +kernel
theorem dX6_isThere_47 : decode cX6_isThere 47 = .ok (.imul, 1) := by decide +kernel
theorem dX6_isThere_48 : decode cX6_isThere 48 = .ok (.isub, 1) := by decide +kernel
theorem dX6_isThere_49 : decode cX6_isThere 49 = .ok (.aload_n 2, 1) := by decide +kernel
theorem dX6_isThere_50 : decode cX6_isThere 50 = .ok (.aload_n 0, 1) := by decide +kernel
theorem dX6_isThere_51 : decode cX6_isThere 51 = .ok (.getfield 33, 3) := by decide +kernel
theorem dX6_isThere_54 : decode cX6_isThere 54 = .ok (.aload_n 0, 1) := by decide +kernel
theorem dX6_isThere_55 : decode cX6_isThere 55 = .ok (.getfield 36, 3) := by decide +kernel
theorem dX6_isThere_58 : decode cX6_isThere 58 = .ok (.invokevirtual 39, 3) := by decide +kernel
theorem dX6_isThere_61 : decode cX6_isThere 61 = .ok (.if_icmp .le 7, 3) := by decide +kernel
theorem dX6_isThere_64 : decode cX6_isThere 64 = .ok (.iconst 1, 1) := by decide +kernel
theorem dX6_isThere_65 : decode cX6_isThere 65 = .ok (.goto 4, 3) := by decide +kernel
theorem dX6_isThere_68 : decode cX6_isThere 68 = .ok (.iconst 0, 1) := by decide +kernel
theorem dX6_isThere_69 : decode cX6_isThere 69 = .ok (.ireturn, 1) := by decide +kernel
set_option maxHeartbeats 4000000 in
set_option maxRecDepth 100000 in
theorem t_X6_isThere {l : Launch} {g : zG} {d : Nat} {s : zS} (hR : zRok s) {o : Nat} (ho : 92 ≤ o ∧ o < 104) {p0 : Int32} {K : Bool → zS → Prop} (h : (if (s.1 o 0) = 0 then K false s else (if p0 < (s.1 o 1) then K false s else (if p0 ≤ (s.1 o 2) then (if (s.1 o 0) = (2 : Int32) then (zc l g d M_X1_groundAt [.ref 65, .int (s.1 o 3), .int (s.1 o 4)] s (zKi (fun r2 s1 => s1.2.2.1 = s.2.2.1 ∧ (if ((s.1 o 5) - ((s.1 o 9) * (p0 - (s.1 o 1)))) ≤ r2 then K false s1 else K true s1)))) else K true s) else K false s)))) : zc l g (d + 1) M_X6_isThere [.ref o, .int p0, .ref 65] s (zKz K) := by
  refine zCall_of k_X6_isThere (Nat.le_of_ble_eq_true rfl) (Nat.le_refl _) (fun _ => ?_)
  show zt l g (d + 1) M_X6_isThere 0 [.ref o, .int p0, .ref 65] [] s (zKz K)
  refine z_aload_n (i := 0) dX6_isThere_0 rfl rfl rfl ?_
  refine z_getI (x := s.1 o 0) rfl f_X6_18 (i_Th ho) rfl dX6_isThere_1 rfl ?_
  refine z_if_eq (pt := 23) dX6_isThere_4 (by decide) rfl (fun c => ?_) (fun c => ?_)
  · have h := zit h c
    refine z_iconst (v := (0 : Int32)) dX6_isThere_23 (by decide) rfl ?_
    exact z_ret (some (.int (zb false))) (Or.inr (Or.inl ⟨_, _, rfl, rfl, zb_nar _, dX6_isThere_24⟩)) zN200 ⟨_, rfl, h⟩
  · have h := zif h c
    refine z_iload_n (i := 1) dX6_isThere_7 rfl rfl rfl ?_
    refine z_aload_n (i := 0) dX6_isThere_8 rfl rfl rfl ?_
    refine z_getI (x := s.1 o 1) rfl f_X6_21 (i_Th ho) rfl dX6_isThere_9 rfl ?_
    refine z_icmp_lt (pt := 23) dX6_isThere_12 (by decide) rfl (fun c => ?_) (fun c => ?_)
    · have h := zit h c
      refine z_iconst (v := (0 : Int32)) dX6_isThere_23 (by decide) rfl ?_
      exact z_ret (some (.int (zb false))) (Or.inr (Or.inl ⟨_, _, rfl, rfl, zb_nar _, dX6_isThere_24⟩)) zN200 ⟨_, rfl, h⟩
    · have h := zif h c
      refine z_iload_n (i := 1) dX6_isThere_15 rfl rfl rfl ?_
      refine z_aload_n (i := 0) dX6_isThere_16 rfl rfl rfl ?_
      refine z_getI (x := s.1 o 2) rfl f_X6_24 (i_Th ho) rfl dX6_isThere_17 rfl ?_
      refine z_icmp_le (pt := 25) dX6_isThere_20 (by decide) rfl (fun c => ?_) (fun c => ?_)
      · have h := zit h c
        refine z_aload_n (i := 0) dX6_isThere_25 rfl rfl rfl ?_
        refine z_getI (x := s.1 o 0) rfl f_X6_18 (i_Th ho) rfl dX6_isThere_26 rfl ?_
        refine z_iconst (v := (2 : Int32)) dX6_isThere_29 (by decide) rfl ?_
        refine z_icmp_ne (pt := 64) dX6_isThere_30 (by decide) rfl (fun c => ?_) (fun c => ?_)
        · have h := zif h c
          refine z_iconst (v := (1 : Int32)) dX6_isThere_64 (by decide) rfl ?_
          refine z_goto (pn := 69) dX6_isThere_65 (by decide) ?_
          exact z_ret (some (.int (zb true))) (Or.inr (Or.inl ⟨_, _, rfl, rfl, zb_nar _, dX6_isThere_69⟩)) zN200 ⟨_, rfl, h⟩
        · have h := zit h c
          refine z_aload_n (i := 0) dX6_isThere_33 rfl rfl rfl ?_
          refine z_getI (x := s.1 o 5) rfl f_X6_27 (i_Th ho) rfl dX6_isThere_34 rfl ?_
          refine z_aload_n (i := 0) dX6_isThere_37 rfl rfl rfl ?_
          refine z_getI (x := s.1 o 9) rfl f_X6_30 (i_Th ho) rfl dX6_isThere_38 rfl ?_
          refine z_iload_n (i := 1) dX6_isThere_41 rfl rfl rfl ?_
          refine z_aload_n (i := 0) dX6_isThere_42 rfl rfl rfl ?_
          refine z_getI (x := s.1 o 1) rfl f_X6_21 (i_Th ho) rfl dX6_isThere_43 rfl ?_
          refine z_isub dX6_isThere_46 rfl ?_
          refine z_imul dX6_isThere_47 rfl ?_
          refine z_isub dX6_isThere_48 rfl ?_
          refine z_aload_n (i := 2) dX6_isThere_49 rfl rfl rfl ?_
          refine z_aload_n (i := 0) dX6_isThere_50 rfl rfl rfl ?_
          refine z_getI (x := s.1 o 3) rfl f_X6_33 (i_Th ho) rfl dX6_isThere_51 rfl ?_
          refine z_aload_n (i := 0) dX6_isThere_54 rfl rfl rfl ?_
          refine z_getI (x := s.1 o 4) rfl f_X6_36 (i_Th ho) rfl dX6_isThere_55 rfl ?_
          refine z_callV k_X1_groundAt m_X6_39 (zRec_of i_65) rfl h rfl (Nat.le_of_ble_eq_true rfl) dX6_isThere_58 zy200 rfl ?_
          rintro v s1 ⟨r2, rfl, hRs1, h⟩
          show zt l g (d + 1) M_X6_isThere 61 [.ref o, .int p0, .ref 65] [.int r2, .int ((s.1 o 5) - ((s.1 o 9) * (p0 - (s.1 o 1))))] s1 _
          refine z_icmp_le (pt := 68) dX6_isThere_61 (by decide) rfl (fun c => ?_) (fun c => ?_)
          · have h := zit h c
            refine z_iconst (v := (0 : Int32)) dX6_isThere_68 (by decide) rfl ?_
            exact z_ret (some (.int (zb false))) (Or.inr (Or.inl ⟨_, _, rfl, rfl, zb_nar _, dX6_isThere_69⟩)) zN200 ⟨_, rfl, h⟩
          · have h := zif h c
            refine z_iconst (v := (1 : Int32)) dX6_isThere_64 (by decide) rfl ?_
            refine z_goto (pn := 69) dX6_isThere_65 (by decide) ?_
            exact z_ret (some (.int (zb true))) (Or.inr (Or.inl ⟨_, _, rfl, rfl, zb_nar _, dX6_isThere_69⟩)) zN200 ⟨_, rfl, h⟩
      · have h := zif h c
        refine z_iconst (v := (0 : Int32)) dX6_isThere_23 (by decide) rfl ?_
        exact z_ret (some (.int (zb false))) (Or.inr (Or.inl ⟨_, _, rfl, rfl, zb_nar _, dX6_isThere_24⟩)) zN200 ⟨_, rfl, h⟩
theorem dX6_isLit_0 : decode cX6_isLit 0 = .ok (.aload_n 0, 1) := by decide +kernel
theorem dX6_isLit_1 : decode cX6_isLit 1 = .ok (.getfield 18, 3) := by decide +kernel
theorem dX6_isLit_4 : decode cX6_isLit 4 = .ok (.iconst 3, 1) := by decide +kernel
theorem dX6_isLit_5 : decode cX6_isLit 5 = .ok (.if_icmp .ne 23, 3) := by decide +kernel
theorem dX6_isLit_8 : decode cX6_isLit 8 = .ok (.aload_n 0, 1) := by decide +kernel
theorem dX6_isLit_9 : decode cX6_isLit 9 = .ok (.getfield 15, 3) := by decide +kernel
theorem dX6_isLit_12 : decode cX6_isLit 12 = .ok (.ifCond .le 20, 3) := by decide +kernel
theorem dX6_isLit_15 : decode cX6_isLit 15 = .ok (.iload_n 1, 1) := by decide +kernel
theorem dX6_isLit_16 : decode cX6_isLit 16 = .ok (.aload_n 0, 1) := by decide +kernel
theorem dX6_isLit_17 : decode cX6_isLit 17 = .ok (.getfield 15, 3) := by decide +kernel
theorem dX6_isLit_20 : decode cX6_isLit 20 = .ok (.irem, 1) := by decide +kernel
theorem dX6_isLit_21 : decode cX6_isLit 21 = .ok (.aload_n 0, 1) := by decide +kernel
theorem dX6_isLit_22 : decode cX6_isLit 22 = .ok (.getfield 45, 3) := by decide +kernel
theorem dX6_isLit_25 : decode cX6_isLit 25 = .ok (.if_icmp .ne 7, 3) := by decide +kernel
theorem dX6_isLit_28 : decode cX6_isLit 28 = .ok (.iconst 1, 1) := by decide +kernel
theorem dX6_isLit_29 : decode cX6_isLit 29 = .ok (.goto 4, 3) := by decide +kernel
theorem dX6_isLit_32 : decode cX6_isLit 32 = .ok (.iconst 0, 1) := by decide +kernel
theorem dX6_isLit_33 : decode cX6_isLit 33 = .ok (.ireturn, 1) := by decide +kernel
set_option maxHeartbeats 4000000 in
set_option maxRecDepth 100000 in
theorem t_X6_isLit {l : Launch} {g : zG} {d : Nat} {s : zS} (hR : zRok s) {o : Nat} (ho : 92 ≤ o ∧ o < 104) {p0 : Int32} {K : Bool → zS → Prop} (h : (if (s.1 o 0) = (3 : Int32) then (if (s.1 o 10) ≤ 0 then K false s else (¬ (s.1 o 10) = 0 ∧ (if (p0 % (s.1 o 10)) = (s.1 o 11) then K true s else K false s))) else K true s)) : zc l g d M_X6_isLit [.ref o, .int p0] s (zKz K) := by
  refine zCall_of k_X6_isLit (Nat.le_of_ble_eq_true rfl) (Nat.le_refl _) (fun _ => ?_)
  show zt l g d M_X6_isLit 0 [.ref o, .int p0] [] s (zKz K)
  refine z_aload_n (i := 0) dX6_isLit_0 rfl rfl rfl ?_
  refine z_getI (x := s.1 o 0) rfl f_X6_18 (i_Th ho) rfl dX6_isLit_1 rfl ?_
  refine z_iconst (v := (3 : Int32)) dX6_isLit_4 (by decide) rfl ?_
  refine z_icmp_ne (pt := 28) dX6_isLit_5 (by decide) rfl (fun c => ?_) (fun c => ?_)
  · have h := zif h c
    refine z_iconst (v := (1 : Int32)) dX6_isLit_28 (by decide) rfl ?_
    refine z_goto (pn := 33) dX6_isLit_29 (by decide) ?_
    exact z_ret (some (.int (zb true))) (Or.inr (Or.inl ⟨_, _, rfl, rfl, zb_nar _, dX6_isLit_33⟩)) zN200 ⟨_, rfl, h⟩
  · have h := zit h c
    refine z_aload_n (i := 0) dX6_isLit_8 rfl rfl rfl ?_
    refine z_getI (x := s.1 o 10) rfl f_X6_15 (i_Th ho) rfl dX6_isLit_9 rfl ?_
    refine z_if_le (pt := 32) dX6_isLit_12 (by decide) rfl (fun c => ?_) (fun c => ?_)
    · have h := zit h c
      refine z_iconst (v := (0 : Int32)) dX6_isLit_32 (by decide) rfl ?_
      exact z_ret (some (.int (zb false))) (Or.inr (Or.inl ⟨_, _, rfl, rfl, zb_nar _, dX6_isLit_33⟩)) zN200 ⟨_, rfl, h⟩
    · have h := zif h c
      refine z_iload_n (i := 1) dX6_isLit_15 rfl rfl rfl ?_
      refine z_aload_n (i := 0) dX6_isLit_16 rfl rfl rfl ?_
      refine z_getI (x := s.1 o 10) rfl f_X6_15 (i_Th ho) rfl dX6_isLit_17 rfl ?_
      obtain ⟨a1, h⟩ := h
      refine z_irem dX6_isLit_20 a1 rfl ?_
      refine z_aload_n (i := 0) dX6_isLit_21 rfl rfl rfl ?_
      refine z_getI (x := s.1 o 11) rfl f_X6_45 (i_Th ho) rfl dX6_isLit_22 rfl ?_
      refine z_icmp_ne (pt := 32) dX6_isLit_25 (by decide) rfl (fun c => ?_) (fun c => ?_)
      · have h := zif h c
        refine z_iconst (v := (0 : Int32)) dX6_isLit_32 (by decide) rfl ?_
        exact z_ret (some (.int (zb false))) (Or.inr (Or.inl ⟨_, _, rfl, rfl, zb_nar _, dX6_isLit_33⟩)) zN200 ⟨_, rfl, h⟩
      · have h := zit h c
        refine z_iconst (v := (1 : Int32)) dX6_isLit_28 (by decide) rfl ?_
        refine z_goto (pn := 33) dX6_isLit_29 (by decide) ?_
        exact z_ret (some (.int (zb true))) (Or.inr (Or.inl ⟨_, _, rfl, rfl, zb_nar _, dX6_isLit_33⟩)) zN200 ⟨_, rfl, h⟩
theorem dX6_xIn_0 : decode cX6_xIn 0 = .ok (.aload_n 0, 1) := by decide +kernel
theorem dX6_xIn_1 : decode cX6_xIn 1 = .ok (.getfield 9, 3) := by decide +kernel
theorem dX6_xIn_4 : decode cX6_xIn 4 = .ok (.ifCond .ne 10, 3) := by decide +kernel
theorem dX6_xIn_7 : decode cX6_xIn 7 = .ok (.aload_n 0, 1) := by decide +kernel
theorem dX6_xIn_8 : decode cX6_xIn 8 = .ok (.getfield 33, 3) := by decide +kernel
theorem dX6_xIn_11 : decode cX6_xIn 11 = .ok (.goto 26, 3) := by decide +kernel
theorem dX6_xIn_14 : decode cX6_xIn 14 = .ok (.aload_n 0, 1) := by decide +kernel
theorem dX6_xIn_15 : decode cX6_xIn 15 = .ok (.getfield 33, 3) := by decide +kernel
theorem dX6_xIn_18 : decode cX6_xIn 18 = .ok (.aload_n 0, 1) := by decide +kernel
theorem dX6_xIn_19 : decode cX6_xIn 19 = .ok (.getfield 48, 3) := by decide +kernel
theorem dX6_xIn_22 : decode cX6_xIn 22 = .ok (.iload_n 1, 1) := by decide +kernel
theorem dX6_xIn_23 : decode cX6_xIn 23 = .ok (.aload_n 0, 1) := by decide +kernel
theorem dX6_xIn_24 : decode cX6_xIn 24 = .ok (.getfield 21, 3) := by decide +kernel
theorem dX6_xIn_27 : decode cX6_xIn 27 = .ok (.isub, 1) := by decide +kernel
theorem dX6_xIn_28 : decode cX6_xIn 28 = .ok (.imul, 1) := by decide +kernel
theorem dX6_xIn_29 : decode cX6_xIn 29 = .ok (.aload_n 0, 1) := by decide +kernel
theorem dX6_xIn_30 : decode cX6_xIn 30 = .ok (.getfield 9, 3) := by decide +kernel
theorem dX6_xIn_33 : decode cX6_xIn 33 = .ok (.invokestatic 51, 3) := by decide +kernel
theorem dX6_xIn_36 : decode cX6_xIn 36 = .ok (.iadd, 1) := by decide +kernel
theorem dX6_xIn_37 : decode cX6_xIn 37 = .ok (.ireturn, 1) := by decide +kernel
set_option maxHeartbeats 4000000 in
set_option maxRecDepth 100000 in
theorem t_X6_xIn {l : Launch} {g : zG} {d : Nat} {s : zS} (hR : zRok s) {o : Nat} (ho : 92 ≤ o ∧ o < 104) {p0 : Int32} {K : Int32 → zS → Prop} (h : (if (s.1 o 8) = 0 then K (s.1 o 3) s else (¬ (s.1 o 8) = 0 ∧ K ((s.1 o 3) + (zfd ((s.1 o 6) * (p0 - (s.1 o 1))) (s.1 o 8))) s))) : zc l g (d + 1) M_X6_xIn [.ref o, .int p0] s (zKi K) := by
  refine zCall_of k_X6_xIn (Nat.le_of_ble_eq_true rfl) (Nat.le_refl _) (fun _ => ?_)
  show zt l g (d + 1) M_X6_xIn 0 [.ref o, .int p0] [] s (zKi K)
  refine z_aload_n (i := 0) dX6_xIn_0 rfl rfl rfl ?_
  refine z_getI (x := s.1 o 8) rfl f_X6_9 (i_Th ho) rfl dX6_xIn_1 rfl ?_
  refine z_if_ne (pt := 14) dX6_xIn_4 (by decide) rfl (fun c => ?_) (fun c => ?_)
  · have h := zif h c
    refine z_aload_n (i := 0) dX6_xIn_14 rfl rfl rfl ?_
    refine z_getI (x := s.1 o 3) rfl f_X6_33 (i_Th ho) rfl dX6_xIn_15 rfl ?_
    refine z_aload_n (i := 0) dX6_xIn_18 rfl rfl rfl ?_
    refine z_getI (x := s.1 o 6) rfl f_X6_48 (i_Th ho) rfl dX6_xIn_19 rfl ?_
    refine z_iload_n (i := 1) dX6_xIn_22 rfl rfl rfl ?_
    refine z_aload_n (i := 0) dX6_xIn_23 rfl rfl rfl ?_
    refine z_getI (x := s.1 o 1) rfl f_X6_21 (i_Th ho) rfl dX6_xIn_24 rfl ?_
    refine z_isub dX6_xIn_27 rfl ?_
    refine z_imul dX6_xIn_28 rfl ?_
    refine z_aload_n (i := 0) dX6_xIn_29 rfl rfl rfl ?_
    refine z_getI (x := s.1 o 8) rfl f_X6_9 (i_Th ho) rfl dX6_xIn_30 rfl ?_
    obtain ⟨a1, h⟩ := h
    refine z_fdiv m_X6_51 a1 dX6_xIn_33 (Nat.le_of_ble_eq_true rfl) rfl ?_
    refine z_iadd dX6_xIn_36 rfl ?_
    exact z_ret (some (.int ((s.1 o 3) + (zfd ((s.1 o 6) * (p0 - (s.1 o 1))) (s.1 o 8))))) (Or.inr (Or.inl ⟨_, _, rfl, rfl, rfl, dX6_xIn_37⟩)) zN200 ⟨_, rfl, h⟩
  · have h := zit h c
    refine z_aload_n (i := 0) dX6_xIn_7 rfl rfl rfl ?_
    refine z_getI (x := s.1 o 3) rfl f_X6_33 (i_Th ho) rfl dX6_xIn_8 rfl ?_
    refine z_goto (pn := 37) dX6_xIn_11 (by decide) ?_
    exact z_ret (some (.int (s.1 o 3))) (Or.inr (Or.inl ⟨_, _, rfl, rfl, rfl, dX6_xIn_37⟩)) zN200 ⟨_, rfl, h⟩
theorem dX6_yIn_0 : decode cX6_yIn 0 = .ok (.aload_n 0, 1) := by decide +kernel
theorem dX6_yIn_1 : decode cX6_yIn 1 = .ok (.getfield 9, 3) := by decide +kernel
theorem dX6_yIn_4 : decode cX6_yIn 4 = .ok (.ifCond .ne 10, 3) := by decide +kernel
theorem dX6_yIn_7 : decode cX6_yIn 7 = .ok (.aload_n 0, 1) := by decide +kernel
theorem dX6_yIn_8 : decode cX6_yIn 8 = .ok (.getfield 36, 3) := by decide +kernel
theorem dX6_yIn_11 : decode cX6_yIn 11 = .ok (.goto 26, 3) := by decide +kernel
theorem dX6_yIn_14 : decode cX6_yIn 14 = .ok (.aload_n 0, 1) := by decide +kernel
theorem dX6_yIn_15 : decode cX6_yIn 15 = .ok (.getfield 36, 3) := by decide +kernel
theorem dX6_yIn_18 : decode cX6_yIn 18 = .ok (.aload_n 0, 1) := by decide +kernel
theorem dX6_yIn_19 : decode cX6_yIn 19 = .ok (.getfield 56, 3) := by decide +kernel
theorem dX6_yIn_22 : decode cX6_yIn 22 = .ok (.iload_n 1, 1) := by decide +kernel
theorem dX6_yIn_23 : decode cX6_yIn 23 = .ok (.aload_n 0, 1) := by decide +kernel
theorem dX6_yIn_24 : decode cX6_yIn 24 = .ok (.getfield 21, 3) := by decide +kernel
theorem dX6_yIn_27 : decode cX6_yIn 27 = .ok (.isub, 1) := by decide +kernel
theorem dX6_yIn_28 : decode cX6_yIn 28 = .ok (.imul, 1) := by decide +kernel
theorem dX6_yIn_29 : decode cX6_yIn 29 = .ok (.aload_n 0, 1) := by decide +kernel
theorem dX6_yIn_30 : decode cX6_yIn 30 = .ok (.getfield 9, 3) := by decide +kernel
theorem dX6_yIn_33 : decode cX6_yIn 33 = .ok (.invokestatic 51, 3) := by decide +kernel
theorem dX6_yIn_36 : decode cX6_yIn 36 = .ok (.iadd, 1) := by decide +kernel
theorem dX6_yIn_37 : decode cX6_yIn 37 = .ok (.ireturn, 1) := by decide +kernel
set_option maxHeartbeats 4000000 in
set_option maxRecDepth 100000 in
theorem t_X6_yIn {l : Launch} {g : zG} {d : Nat} {s : zS} (hR : zRok s) {o : Nat} (ho : 92 ≤ o ∧ o < 104) {p0 : Int32} {K : Int32 → zS → Prop} (h : (if (s.1 o 8) = 0 then K (s.1 o 4) s else (¬ (s.1 o 8) = 0 ∧ K ((s.1 o 4) + (zfd ((s.1 o 7) * (p0 - (s.1 o 1))) (s.1 o 8))) s))) : zc l g (d + 1) M_X6_yIn [.ref o, .int p0] s (zKi K) := by
  refine zCall_of k_X6_yIn (Nat.le_of_ble_eq_true rfl) (Nat.le_refl _) (fun _ => ?_)
  show zt l g (d + 1) M_X6_yIn 0 [.ref o, .int p0] [] s (zKi K)
  refine z_aload_n (i := 0) dX6_yIn_0 rfl rfl rfl ?_
  refine z_getI (x := s.1 o 8) rfl f_X6_9 (i_Th ho) rfl dX6_yIn_1 rfl ?_
  refine z_if_ne (pt := 14) dX6_yIn_4 (by decide) rfl (fun c => ?_) (fun c => ?_)
  · have h := zif h c
    refine z_aload_n (i := 0) dX6_yIn_14 rfl rfl rfl ?_
    refine z_getI (x := s.1 o 4) rfl f_X6_36 (i_Th ho) rfl dX6_yIn_15 rfl ?_
    refine z_aload_n (i := 0) dX6_yIn_18 rfl rfl rfl ?_
    refine z_getI (x := s.1 o 7) rfl f_X6_56 (i_Th ho) rfl dX6_yIn_19 rfl ?_
    refine z_iload_n (i := 1) dX6_yIn_22 rfl rfl rfl ?_
    refine z_aload_n (i := 0) dX6_yIn_23 rfl rfl rfl ?_
    refine z_getI (x := s.1 o 1) rfl f_X6_21 (i_Th ho) rfl dX6_yIn_24 rfl ?_
    refine z_isub dX6_yIn_27 rfl ?_
    refine z_imul dX6_yIn_28 rfl ?_
    refine z_aload_n (i := 0) dX6_yIn_29 rfl rfl rfl ?_
    refine z_getI (x := s.1 o 8) rfl f_X6_9 (i_Th ho) rfl dX6_yIn_30 rfl ?_
    obtain ⟨a1, h⟩ := h
    refine z_fdiv m_X6_51 a1 dX6_yIn_33 (Nat.le_of_ble_eq_true rfl) rfl ?_
    refine z_iadd dX6_yIn_36 rfl ?_
    exact z_ret (some (.int ((s.1 o 4) + (zfd ((s.1 o 7) * (p0 - (s.1 o 1))) (s.1 o 8))))) (Or.inr (Or.inl ⟨_, _, rfl, rfl, rfl, dX6_yIn_37⟩)) zN200 ⟨_, rfl, h⟩
  · have h := zit h c
    refine z_aload_n (i := 0) dX6_yIn_7 rfl rfl rfl ?_
    refine z_getI (x := s.1 o 4) rfl f_X6_36 (i_Th ho) rfl dX6_yIn_8 rfl ?_
    refine z_goto (pn := 37) dX6_yIn_11 (by decide) ?_
    exact z_ret (some (.int (s.1 o 4))) (Or.inr (Or.inl ⟨_, _, rfl, rfl, rfl, dX6_yIn_37⟩)) zN200 ⟨_, rfl, h⟩
theorem dX6_zIn_0 : decode cX6_zIn 0 = .ok (.aload_n 0, 1) := by decide +kernel
theorem dX6_zIn_1 : decode cX6_zIn 1 = .ok (.getfield 18, 3) := by decide +kernel
theorem dX6_zIn_4 : decode cX6_zIn 4 = .ok (.iconst 3, 1) := by decide +kernel
theorem dX6_zIn_5 : decode cX6_zIn 5 = .ok (.if_icmp .ne 23, 3) := by decide +kernel
theorem dX6_zIn_8 : decode cX6_zIn 8 = .ok (.aload_n 2, 1) := by decide +kernel
theorem dX6_zIn_9 : decode cX6_zIn 9 = .ok (.aload_n 0, 1) := by decide +kernel
theorem dX6_zIn_10 : decode cX6_zIn 10 = .ok (.getfield 33, 3) := by decide +kernel
theorem dX6_zIn_13 : decode cX6_zIn 13 = .ok (.aload_n 0, 1) := by decide +kernel
theorem dX6_zIn_14 : decode cX6_zIn 14 = .ok (.getfield 36, 3) := by decide +kernel
theorem dX6_zIn_17 : decode cX6_zIn 17 = .ok (.invokevirtual 39, 3) := by decide +kernel
theorem dX6_zIn_20 : decode cX6_zIn 20 = .ok (.aload_n 0, 1) := by decide +kernel
theorem dX6_zIn_21 : decode cX6_zIn 21 = .ok (.getfield 27, 3) := by decide +kernel
theorem dX6_zIn_24 : decode cX6_zIn 24 = .ok (.iadd, 1) := by decide +kernel
theorem dX6_zIn_25 : decode cX6_zIn 25 = .ok (.goto 19, 3) := by decide +kernel
theorem dX6_zIn_28 : decode cX6_zIn 28 = .ok (.aload_n 0, 1) := by decide +kernel
theorem dX6_zIn_29 : decode cX6_zIn 29 = .ok (.getfield 27, 3) := by decide +kernel
theorem dX6_zIn_32 : decode cX6_zIn 32 = .ok (.aload_n 0, 1) := by decide +kernel
theorem dX6_zIn_33 : decode cX6_zIn 33 = .ok (.getfield 30, 3) := by decide +kernel
theorem dX6_zIn_36 : decode cX6_zIn 36 = .ok (.iload_n 1, 1) := by decide +kernel
theorem dX6_zIn_37 : decode cX6_zIn 37 = .ok (.aload_n 0, 1) := by decide +kernel
theorem dX6_zIn_38 : decode cX6_zIn 38 = .ok (.getfield 21, 3) := by decide +kernel
theorem dX6_zIn_41 : decode cX6_zIn 41 = .ok (.isub, 1) := by decide +kernel
theorem dX6_zIn_42 : decode cX6_zIn 42 = .ok (.imul, 1) := by decide +kernel
theorem dX6_zIn_43 : decode cX6_zIn 43 = .ok (.isub, 1) := by decide +kernel
theorem dX6_zIn_44 : decode cX6_zIn 44 = .ok (.ireturn, 1) := by decide +kernel
set_option maxHeartbeats 4000000 in
set_option maxRecDepth 100000 in
theorem t_X6_zIn {l : Launch} {g : zG} {d : Nat} {s : zS} (hR : zRok s) {o : Nat} (ho : 92 ≤ o ∧ o < 104) {p0 : Int32} {K : Int32 → zS → Prop} (h : (if (s.1 o 0) = (3 : Int32) then (zc l g d M_X1_groundAt [.ref 65, .int (s.1 o 3), .int (s.1 o 4)] s (zKi (fun r2 s1 => s1.2.2.1 = s.2.2.1 ∧ K (r2 + (s1.1 o 5)) s1))) else K ((s.1 o 5) - ((s.1 o 9) * (p0 - (s.1 o 1)))) s)) : zc l g (d + 1) M_X6_zIn [.ref o, .int p0, .ref 65] s (zKi K) := by
  refine zCall_of k_X6_zIn (Nat.le_of_ble_eq_true rfl) (Nat.le_refl _) (fun _ => ?_)
  show zt l g (d + 1) M_X6_zIn 0 [.ref o, .int p0, .ref 65] [] s (zKi K)
  refine z_aload_n (i := 0) dX6_zIn_0 rfl rfl rfl ?_
  refine z_getI (x := s.1 o 0) rfl f_X6_18 (i_Th ho) rfl dX6_zIn_1 rfl ?_
  refine z_iconst (v := (3 : Int32)) dX6_zIn_4 (by decide) rfl ?_
  refine z_icmp_ne (pt := 28) dX6_zIn_5 (by decide) rfl (fun c => ?_) (fun c => ?_)
  · have h := zif h c
    refine z_aload_n (i := 0) dX6_zIn_28 rfl rfl rfl ?_
    refine z_getI (x := s.1 o 5) rfl f_X6_27 (i_Th ho) rfl dX6_zIn_29 rfl ?_
    refine z_aload_n (i := 0) dX6_zIn_32 rfl rfl rfl ?_
    refine z_getI (x := s.1 o 9) rfl f_X6_30 (i_Th ho) rfl dX6_zIn_33 rfl ?_
    refine z_iload_n (i := 1) dX6_zIn_36 rfl rfl rfl ?_
    refine z_aload_n (i := 0) dX6_zIn_37 rfl rfl rfl ?_
    refine z_getI (x := s.1 o 1) rfl f_X6_21 (i_Th ho) rfl dX6_zIn_38 rfl ?_
    refine z_isub dX6_zIn_41 rfl ?_
    refine z_imul dX6_zIn_42 rfl ?_
    refine z_isub dX6_zIn_43 rfl ?_
    exact z_ret (some (.int ((s.1 o 5) - ((s.1 o 9) * (p0 - (s.1 o 1)))))) (Or.inr (Or.inl ⟨_, _, rfl, rfl, rfl, dX6_zIn_44⟩)) zN200 ⟨_, rfl, h⟩
  · have h := zit h c
    refine z_aload_n (i := 2) dX6_zIn_8 rfl rfl rfl ?_
    refine z_aload_n (i := 0) dX6_zIn_9 rfl rfl rfl ?_
    refine z_getI (x := s.1 o 3) rfl f_X6_33 (i_Th ho) rfl dX6_zIn_10 rfl ?_
    refine z_aload_n (i := 0) dX6_zIn_13 rfl rfl rfl ?_
    refine z_getI (x := s.1 o 4) rfl f_X6_36 (i_Th ho) rfl dX6_zIn_14 rfl ?_
    refine z_callV k_X1_groundAt m_X6_39 (zRec_of i_65) rfl h rfl (Nat.le_of_ble_eq_true rfl) dX6_zIn_17 zy200 rfl ?_
    rintro v s1 ⟨r2, rfl, hRs1, h⟩
    show zt l g (d + 1) M_X6_zIn 20 [.ref o, .int p0, .ref 65] [.int r2] s1 _
    refine z_aload_n (i := 0) dX6_zIn_20 rfl rfl rfl ?_
    refine z_getI (x := s1.1 o 5) rfl f_X6_27 (i_Th ho) rfl dX6_zIn_21 rfl ?_
    refine z_iadd dX6_zIn_24 rfl ?_
    refine z_goto (pn := 44) dX6_zIn_25 (by decide) ?_
    exact z_ret (some (.int (r2 + (s1.1 o 5)))) (Or.inr (Or.inl ⟨_, _, rfl, rfl, rfl, dX6_zIn_44⟩)) zN200 ⟨_, rfl, h⟩
