theorem dX8_isPlace_0 : decode cX8_isPlace 0 = .ok (.iload_n 0, 1) := by decide +kernel
theorem dX8_isPlace_1 : decode cX8_isPlace 1 = .ok (.i2l, 1) := by decide +kernel
theorem dX8_isPlace_2 : decode cX8_isPlace 2 = .ok (.lconst 0, 1) := by decide +kernel
theorem dX8_isPlace_3 : decode cX8_isPlace 3 = .ok (.ldc2_w 145, 3) := by decide +kernel
theorem dX8_isPlace_6 : decode cX8_isPlace 6 = .ok (.invokestatic 147, 3) := by decide +kernel
theorem dX8_isPlace_9 : decode cX8_isPlace 9 = .ok (.ireturn, 1) := by decide +kernel
set_option maxHeartbeats 4000000 in
set_option maxRecDepth 100000 in
theorem t_X8_isPlace {l : Launch} {g : zG} {d : Nat} {s : zS} (hR : zRok s) {p0 : Int32} {K : Bool → zS → Prop} (h : K (zinr p0.toInt64 (0 : Int64) (4095 : Int64)) s) : zc l g (d + 1) M_X8_isPlace [.int p0] s (zKz K) := by
  refine zCall_of k_X8_isPlace (Nat.le_of_ble_eq_true rfl) (Nat.le_refl _) (fun _ => ?_)
  show zt l g (d + 1) M_X8_isPlace 0 [.int p0] [] s (zKz K)
  refine z_iload_n (i := 0) dX8_isPlace_0 rfl rfl rfl ?_
  refine z_i2l dX8_isPlace_1 rfl ?_
  refine z_lconst (v := (0 : Int64)) dX8_isPlace_2 (by decide) rfl ?_
  refine z_ldc2 (v := (4095 : Int64)) q_X8_145 dX8_isPlace_3 rfl ?_
  refine z_in m_X8_147 dX8_isPlace_6 (Nat.le_of_ble_eq_true rfl) rfl ?_
  exact z_ret (some (.int (zb (zinr p0.toInt64 (0 : Int64) (4095 : Int64))))) (Or.inr (Or.inl ⟨_, _, rfl, rfl, zb_nar _, dX8_isPlace_9⟩)) zN200 ⟨_, rfl, h⟩
theorem dX8_isMinute_0 : decode cX8_isMinute 0 = .ok (.iload_n 0, 1) := by decide +kernel
theorem dX8_isMinute_1 : decode cX8_isMinute 1 = .ok (.i2l, 1) := by decide +kernel
theorem dX8_isMinute_2 : decode cX8_isMinute 2 = .ok (.lconst 0, 1) := by decide +kernel
theorem dX8_isMinute_3 : decode cX8_isMinute 3 = .ok (.ldc2_w 151, 3) := by decide +kernel
theorem dX8_isMinute_6 : decode cX8_isMinute 6 = .ok (.invokestatic 147, 3) := by decide +kernel
theorem dX8_isMinute_9 : decode cX8_isMinute 9 = .ok (.ireturn, 1) := by decide +kernel
set_option maxHeartbeats 4000000 in
set_option maxRecDepth 100000 in
theorem t_X8_isMinute {l : Launch} {g : zG} {d : Nat} {s : zS} (hR : zRok s) {p0 : Int32} {K : Bool → zS → Prop} (h : K (zinr p0.toInt64 (0 : Int64) (239 : Int64)) s) : zc l g (d + 1) M_X8_isMinute [.int p0] s (zKz K) := by
  refine zCall_of k_X8_isMinute (Nat.le_of_ble_eq_true rfl) (Nat.le_refl _) (fun _ => ?_)
  show zt l g (d + 1) M_X8_isMinute 0 [.int p0] [] s (zKz K)
  refine z_iload_n (i := 0) dX8_isMinute_0 rfl rfl rfl ?_
  refine z_i2l dX8_isMinute_1 rfl ?_
  refine z_lconst (v := (0 : Int64)) dX8_isMinute_2 (by decide) rfl ?_
  refine z_ldc2 (v := (239 : Int64)) q_X8_151 dX8_isMinute_3 rfl ?_
  refine z_in m_X8_147 dX8_isMinute_6 (Nat.le_of_ble_eq_true rfl) rfl ?_
  exact z_ret (some (.int (zb (zinr p0.toInt64 (0 : Int64) (239 : Int64))))) (Or.inr (Or.inl ⟨_, _, rfl, rfl, zb_nar _, dX8_isMinute_9⟩)) zN200 ⟨_, rfl, h⟩
theorem dX8_areMinutes_0 : decode cX8_areMinutes 0 = .ok (.iload_n 0, 1) := by decide +kernel
theorem dX8_areMinutes_1 : decode cX8_areMinutes 1 = .ok (.ifCond .lt 42, 3) := by decide +kernel
theorem dX8_areMinutes_4 : decode cX8_areMinutes 4 = .ok (.iload_n 0, 1) := by decide +kernel
theorem dX8_areMinutes_5 : decode cX8_areMinutes 5 = .ok (.sipush 1000, 3) := by decide +kernel
theorem dX8_areMinutes_8 : decode cX8_areMinutes 8 = .ok (.idiv, 1) := by decide +kernel
theorem dX8_areMinutes_9 : decode cX8_areMinutes 9 = .ok (.invokestatic 153, 3) := by decide +kernel
theorem dX8_areMinutes_12 : decode cX8_areMinutes 12 = .ok (.ifCond .eq 31, 3) := by decide +kernel
theorem dX8_areMinutes_15 : decode cX8_areMinutes 15 = .ok (.iload_n 0, 1) := by decide +kernel
theorem dX8_areMinutes_16 : decode cX8_areMinutes 16 = .ok (.sipush 1000, 3) := by decide +kernel
theorem dX8_areMinutes_19 : decode cX8_areMinutes 19 = .ok (.irem, 1) := by decide +kernel
theorem dX8_areMinutes_20 : decode cX8_areMinutes 20 = .ok (.invokestatic 153, 3) := by decide +kernel
theorem dX8_areMinutes_23 : decode cX8_areMinutes 23 = .ok (.ifCond .eq 20, 3) := by decide +kernel
theorem dX8_areMinutes_26 : decode cX8_areMinutes 26 = .ok (.iload_n 0, 1) := by decide +kernel
theorem dX8_areMinutes_27 : decode cX8_areMinutes 27 = .ok (.sipush 1000, 3) := by decide +kernel
theorem dX8_areMinutes_30 : decode cX8_areMinutes 30 = .ok (.irem, 1) := by decide +kernel
theorem dX8_areMinutes_31 : decode cX8_areMinutes 31 = .ok (.iload_n 0, 1) := by decide +kernel
theorem dX8_areMinutes_32 : decode cX8_areMinutes 32 = .ok (.sipush 1000, 3) := by decide +kernel
theorem dX8_areMinutes_35 : decode cX8_areMinutes 35 = .ok (.idiv, 1) := by decide +kernel
theorem dX8_areMinutes_36 : decode cX8_areMinutes 36 = .ok (.if_icmp .lt 7, 3) := by decide +kernel
theorem dX8_areMinutes_39 : decode cX8_areMinutes 39 = .ok (.iconst 1, 1) := by decide +kernel
theorem dX8_areMinutes_40 : decode cX8_areMinutes 40 = .ok (.goto 4, 3) := by decide +kernel
theorem dX8_areMinutes_43 : decode cX8_areMinutes 43 = .ok (.iconst 0, 1) := by decide +kernel
theorem dX8_areMinutes_44 : decode cX8_areMinutes 44 = .ok (.ireturn, 1) := by decide +kernel
set_option maxHeartbeats 4000000 in
set_option maxRecDepth 100000 in
theorem t_X8_areMinutes {l : Launch} {g : zG} {d : Nat} {s : zS} (hR : zRok s) {p0 : Int32} {K : Bool → zS → Prop} (h : (if p0 < 0 then K false s else (zc l g d M_X8_isMinute [.int (p0 / (1000 : Int32))] s (zKz (fun b2 s1 => s1.2.2.1 = s.2.2.1 ∧ (if b2 = true then (zc l g d M_X8_isMinute [.int (p0 % (1000 : Int32))] s1 (zKz (fun b4 s3 => s3.2.2.1 = s1.2.2.1 ∧ (if b4 = true then (if (p0 % (1000 : Int32)) < (p0 / (1000 : Int32)) then K false s3 else K true s3) else K false s3)))) else K false s1)))))) : zc l g (d + 1) M_X8_areMinutes [.int p0] s (zKz K) := by
  refine zCall_of k_X8_areMinutes (Nat.le_of_ble_eq_true rfl) (Nat.le_refl _) (fun _ => ?_)
  show zt l g (d + 1) M_X8_areMinutes 0 [.int p0] [] s (zKz K)
  refine z_iload_n (i := 0) dX8_areMinutes_0 rfl rfl rfl ?_
  refine z_if_lt (pt := 43) dX8_areMinutes_1 (by decide) rfl (fun c => ?_) (fun c => ?_)
  · have h := zit h c
    refine z_iconst (v := (0 : Int32)) dX8_areMinutes_43 (by decide) rfl ?_
    exact z_ret (some (.int (zb false))) (Or.inr (Or.inl ⟨_, _, rfl, rfl, zb_nar _, dX8_areMinutes_44⟩)) zN200 ⟨_, rfl, h⟩
  · have h := zif h c
    refine z_iload_n (i := 0) dX8_areMinutes_4 rfl rfl rfl ?_
    refine z_sipush (v := (1000 : Int32)) dX8_areMinutes_5 (by decide) rfl ?_
    refine z_idiv dX8_areMinutes_8 (by decide) rfl ?_
    refine z_callS (as := [.int (p0 / (1000 : Int32))]) k_X8_isMinute m_X8_153 rfl h rfl (Nat.le_of_ble_eq_true rfl) dX8_areMinutes_9 zy200 rfl ?_
    rintro v s1 ⟨b2, rfl, hRs1, h⟩
    show zt l g (d + 1) M_X8_areMinutes 12 [.int p0] [.int (zb b2)] s1 _
    refine z_ifb_eq (pt := 43) dX8_areMinutes_12 (by decide) rfl (fun c => ?_) (fun c => ?_)
    · have h := zif h (by rw [c]; exact Bool.false_ne_true)
      refine z_iconst (v := (0 : Int32)) dX8_areMinutes_43 (by decide) rfl ?_
      exact z_ret (some (.int (zb false))) (Or.inr (Or.inl ⟨_, _, rfl, rfl, zb_nar _, dX8_areMinutes_44⟩)) zN200 ⟨_, rfl, h⟩
    · have h := zit h c
      refine z_iload_n (i := 0) dX8_areMinutes_15 rfl rfl rfl ?_
      refine z_sipush (v := (1000 : Int32)) dX8_areMinutes_16 (by decide) rfl ?_
      refine z_irem dX8_areMinutes_19 (by decide) rfl ?_
      refine z_callS (as := [.int (p0 % (1000 : Int32))]) k_X8_isMinute m_X8_153 rfl h rfl (Nat.le_of_ble_eq_true rfl) dX8_areMinutes_20 zy200 rfl ?_
      rintro v s3 ⟨b4, rfl, hRs3, h⟩
      show zt l g (d + 1) M_X8_areMinutes 23 [.int p0] [.int (zb b4)] s3 _
      refine z_ifb_eq (pt := 43) dX8_areMinutes_23 (by decide) rfl (fun c => ?_) (fun c => ?_)
      · have h := zif h (by rw [c]; exact Bool.false_ne_true)
        refine z_iconst (v := (0 : Int32)) dX8_areMinutes_43 (by decide) rfl ?_
        exact z_ret (some (.int (zb false))) (Or.inr (Or.inl ⟨_, _, rfl, rfl, zb_nar _, dX8_areMinutes_44⟩)) zN200 ⟨_, rfl, h⟩
      · have h := zit h c
        refine z_iload_n (i := 0) dX8_areMinutes_26 rfl rfl rfl ?_
        refine z_sipush (v := (1000 : Int32)) dX8_areMinutes_27 (by decide) rfl ?_
        refine z_irem dX8_areMinutes_30 (by decide) rfl ?_
        refine z_iload_n (i := 0) dX8_areMinutes_31 rfl rfl rfl ?_
        refine z_sipush (v := (1000 : Int32)) dX8_areMinutes_32 (by decide) rfl ?_
        refine z_idiv dX8_areMinutes_35 (by decide) rfl ?_
        refine z_icmp_lt (pt := 43) dX8_areMinutes_36 (by decide) rfl (fun c => ?_) (fun c => ?_)
        · have h := zit h c
          refine z_iconst (v := (0 : Int32)) dX8_areMinutes_43 (by decide) rfl ?_
          exact z_ret (some (.int (zb false))) (Or.inr (Or.inl ⟨_, _, rfl, rfl, zb_nar _, dX8_areMinutes_44⟩)) zN200 ⟨_, rfl, h⟩
        · have h := zif h c
          refine z_iconst (v := (1 : Int32)) dX8_areMinutes_39 (by decide) rfl ?_
          refine z_goto (pn := 44) dX8_areMinutes_40 (by decide) ?_
          exact z_ret (some (.int (zb true))) (Or.inr (Or.inl ⟨_, _, rfl, rfl, zb_nar _, dX8_areMinutes_44⟩)) zN200 ⟨_, rfl, h⟩
theorem dX8_hill_0 : decode cX8_hill 0 = .ok (.iload_n 1, 1) := by decide +kernel
theorem dX8_hill_1 : decode cX8_hill 1 = .ok (.invokestatic 157, 3) := by decide +kernel
theorem dX8_hill_4 : decode cX8_hill 4 = .ok (.ifCond .eq 31, 3) := by decide +kernel
theorem dX8_hill_7 : decode cX8_hill 7 = .ok (.iload_n 2, 1) := by decide +kernel
theorem dX8_hill_8 : decode cX8_hill 8 = .ok (.invokestatic 157, 3) := by decide +kernel
theorem dX8_hill_11 : decode cX8_hill 11 = .ok (.ifCond .eq 24, 3) := by decide +kernel
theorem dX8_hill_14 : decode cX8_hill 14 = .ok (.iload_n 3, 1) := by decide +kernel
theorem dX8_hill_15 : decode cX8_hill 15 = .ok (.i2l, 1) := by decide +kernel
theorem dX8_hill_16 : decode cX8_hill 16 = .ok (.lconst 1, 1) := by decide +kernel
theorem dX8_hill_17 : decode cX8_hill 17 = .ok (.ldc2_w 160, 3) := by decide +kernel
theorem dX8_hill_20 : decode cX8_hill 20 = .ok (.invokestatic 147, 3) := by decide +kernel
theorem dX8_hill_23 : decode cX8_hill 23 = .ok (.ifCond .eq 12, 3) := by decide +kernel
theorem dX8_hill_26 : decode cX8_hill 26 = .ok (.aload_n 0, 1) := by decide +kernel
theorem dX8_hill_27 : decode cX8_hill 27 = .ok (.getfield 162, 3) := by decide +kernel
theorem dX8_hill_30 : decode cX8_hill 30 = .ok (.bipush 8, 2) := by decide +kernel
theorem dX8_hill_32 : decode cX8_hill 32 = .ok (.if_icmp .ne 5, 3) := by decide +kernel
theorem dX8_hill_35 : decode cX8_hill 35 = .ok (.iconst (-1), 1) := by decide +kernel
theorem dX8_hill_36 : decode cX8_hill 36 = .ok (.ireturn, 1) := by decide +kernel
theorem dX8_hill_37 : decode cX8_hill 37 = .ok (.aload_n 0, 1) := by decide +kernel
theorem dX8_hill_38 : decode cX8_hill 38 = .ok (.getfield 9, 3) := by decide +kernel
theorem dX8_hill_41 : decode cX8_hill 41 = .ok (.aload_n 0, 1) := by decide +kernel
theorem dX8_hill_42 : decode cX8_hill 42 = .ok (.getfield 162, 3) := by decide +kernel
theorem dX8_hill_45 : decode cX8_hill 45 = .ok (.iload_n 1, 1) := by decide +kernel
theorem dX8_hill_46 : decode cX8_hill 46 = .ok (.bipush 64, 2) := by decide +kernel
theorem dX8_hill_48 : decode cX8_hill 48 = .ok (.idiv, 1) := by decide +kernel
theorem dX8_hill_49 : decode cX8_hill 49 = .ok (.iload_n 2, 1) := by decide +kernel
theorem dX8_hill_50 : decode cX8_hill 50 = .ok (.bipush 64, 2) := by decide +kernel
theorem dX8_hill_52 : decode cX8_hill 52 = .ok (.idiv, 1) := by decide +kernel
theorem dX8_hill_53 : decode cX8_hill 53 = .ok (.invokestatic 165, 3) := by decide +kernel
theorem dX8_hill_56 : decode cX8_hill 56 = .ok (.iastore, 1) := by decide +kernel
theorem dX8_hill_57 : decode cX8_hill 57 = .ok (.aload_n 0, 1) := by decide +kernel
theorem dX8_hill_58 : decode cX8_hill 58 = .ok (.getfield 16, 3) := by decide +kernel
theorem dX8_hill_61 : decode cX8_hill 61 = .ok (.aload_n 0, 1) := by decide +kernel
theorem dX8_hill_62 : decode cX8_hill 62 = .ok (.getfield 162, 3) := by decide +kernel
theorem dX8_hill_65 : decode cX8_hill 65 = .ok (.iload_n 1, 1) := by decide +kernel
theorem dX8_hill_66 : decode cX8_hill 66 = .ok (.bipush 64, 2) := by decide +kernel
theorem dX8_hill_68 : decode cX8_hill 68 = .ok (.idiv, 1) := by decide +kernel
theorem dX8_hill_69 : decode cX8_hill 69 = .ok (.iload_n 2, 1) := by decide +kernel
theorem dX8_hill_70 : decode cX8_hill 70 = .ok (.bipush 64, 2) := by decide +kernel
theorem dX8_hill_72 : decode cX8_hill 72 = .ok (.idiv, 1) := by decide +kernel
theorem dX8_hill_73 : decode cX8_hill 73 = .ok (.invokestatic 171, 3) := by decide +kernel
theorem dX8_hill_76 : decode cX8_hill 76 = .ok (.iastore, 1) := by decide +kernel
theorem dX8_hill_77 : decode cX8_hill 77 = .ok (.aload_n 0, 1) := by decide +kernel
theorem dX8_hill_78 : decode cX8_hill 78 = .ok (.getfield 13, 3) := by decide +kernel
theorem dX8_hill_81 : decode cX8_hill 81 = .ok (.aload_n 0, 1) := by decide +kernel
theorem dX8_hill_82 : decode cX8_hill 82 = .ok (.getfield 162, 3) := by decide +kernel
theorem dX8_hill_85 : decode cX8_hill 85 = .ok (.iload_n 1, 1) := by decide +kernel
theorem dX8_hill_86 : decode cX8_hill 86 = .ok (.bipush 64, 2) := by decide +kernel
theorem dX8_hill_88 : decode cX8_hill 88 = .ok (.irem, 1) := by decide +kernel
theorem dX8_hill_89 : decode cX8_hill 89 = .ok (.iload_n 2, 1) := by decide +kernel
theorem dX8_hill_90 : decode cX8_hill 90 = .ok (.bipush 64, 2) := by decide +kernel
theorem dX8_hill_92 : decode cX8_hill 92 = .ok (.irem, 1) := by decide +kernel
theorem dX8_hill_93 : decode cX8_hill 93 = .ok (.invokestatic 165, 3) := by decide +kernel
theorem dX8_hill_96 : decode cX8_hill 96 = .ok (.iastore, 1) := by decide +kernel
theorem dX8_hill_97 : decode cX8_hill 97 = .ok (.aload_n 0, 1) := by decide +kernel
theorem dX8_hill_98 : decode cX8_hill 98 = .ok (.getfield 19, 3) := by decide +kernel
theorem dX8_hill_101 : decode cX8_hill 101 = .ok (.aload_n 0, 1) := by decide +kernel
theorem dX8_hill_102 : decode cX8_hill 102 = .ok (.getfield 162, 3) := by decide +kernel
theorem dX8_hill_105 : decode cX8_hill 105 = .ok (.iload_n 1, 1) := by decide +kernel
theorem dX8_hill_106 : decode cX8_hill 106 = .ok (.bipush 64, 2) := by decide +kernel
theorem dX8_hill_108 : decode cX8_hill 108 = .ok (.irem, 1) := by decide +kernel
theorem dX8_hill_109 : decode cX8_hill 109 = .ok (.iload_n 2, 1) := by decide +kernel
theorem dX8_hill_110 : decode cX8_hill 110 = .ok (.bipush 64, 2) := by decide +kernel
theorem dX8_hill_112 : decode cX8_hill 112 = .ok (.irem, 1) := by decide +kernel
theorem dX8_hill_113 : decode cX8_hill 113 = .ok (.invokestatic 171, 3) := by decide +kernel
theorem dX8_hill_116 : decode cX8_hill 116 = .ok (.iastore, 1) := by decide +kernel
theorem dX8_hill_117 : decode cX8_hill 117 = .ok (.aload_n 0, 1) := by decide +kernel
theorem dX8_hill_118 : decode cX8_hill 118 = .ok (.getfield 22, 3) := by decide +kernel
theorem dX8_hill_121 : decode cX8_hill 121 = .ok (.aload_n 0, 1) := by decide +kernel
theorem dX8_hill_122 : decode cX8_hill 122 = .ok (.getfield 162, 3) := by decide +kernel
theorem dX8_hill_125 : decode cX8_hill 125 = .ok (.iload_n 3, 1) := by decide +kernel
theorem dX8_hill_126 : decode cX8_hill 126 = .ok (.iastore, 1) := by decide +kernel
theorem dX8_hill_127 : decode cX8_hill 127 = .ok (.aload_n 0, 1) := by decide +kernel
theorem dX8_hill_128 : decode cX8_hill 128 = .ok (.dup, 1) := by decide +kernel
theorem dX8_hill_129 : decode cX8_hill 129 = .ok (.getfield 162, 3) := by decide +kernel
theorem dX8_hill_132 : decode cX8_hill 132 = .ok (.iconst 1, 1) := by decide +kernel
theorem dX8_hill_133 : decode cX8_hill 133 = .ok (.iadd, 1) := by decide +kernel
theorem dX8_hill_134 : decode cX8_hill 134 = .ok (.putfield 162, 3) := by decide +kernel
theorem dX8_hill_137 : decode cX8_hill 137 = .ok (.aload_n 0, 1) := by decide +kernel
theorem dX8_hill_138 : decode cX8_hill 138 = .ok (.getfield 162, 3) := by decide +kernel
theorem dX8_hill_141 : decode cX8_hill 141 = .ok (.iconst 1, 1) := by decide +kernel
theorem dX8_hill_142 : decode cX8_hill 142 = .ok (.isub, 1) := by decide +kernel
theorem dX8_hill_143 : decode cX8_hill 143 = .ok (.ireturn, 1) := by decide +kernel
set_option maxHeartbeats 4000000 in
set_option maxRecDepth 100000 in
theorem t_X8_hill {l : Launch} {g : zG} {d : Nat} {s : zS} (hR : zRok s) {p0 : Int32} {p1 : Int32} {p2 : Int32} {K : Int32 → zS → Prop} (h : (zc l g d M_X8_isPlace [.int p0] s (zKz (fun b2 s1 => s1.2.2.1 = s.2.2.1 ∧ (if b2 = true then (zc l g d M_X8_isPlace [.int p1] s1 (zKz (fun b4 s3 => s3.2.2.1 = s1.2.2.1 ∧ (if b4 = true then (if (zinr p2.toInt64 (1 : Int64) (60 : Int64)) = true then (if (s3.1 164 17) = (8 : Int32) then K (-1 : Int32) s3 else (vp_in (s3.1 164 17) 8 ∧ (vp_in (s3.1 164 17) 8 ∧ (vp_in (s3.1 164 17) 8 ∧ (vp_in (s3.1 164 17) 8 ∧ (vp_in (s3.1 164 17) 8 ∧ K (((s3.1 164 17) + (1 : Int32)) - (1 : Int32)) (zI (zI (zI (zI (zI (zI s3 165 ((s3.1 164 17).toNatClampNeg) (zmin (p0 / (64 : Int32)) (p1 / (64 : Int32)))) 167 ((s3.1 164 17).toNatClampNeg) (zmax (p0 / (64 : Int32)) (p1 / (64 : Int32)))) 166 ((s3.1 164 17).toNatClampNeg) (zmin (p0 % (64 : Int32)) (p1 % (64 : Int32)))) 168 ((s3.1 164 17).toNatClampNeg) (zmax (p0 % (64 : Int32)) (p1 % (64 : Int32)))) 169 ((s3.1 164 17).toNatClampNeg) p2) 164 17 ((s3.1 164 17) + (1 : Int32))))))))) else K (-1 : Int32) s3) else K (-1 : Int32) s3)))) else K (-1 : Int32) s1))))) : zc l g (d + 1) M_X8_hill [.ref 164, .int p0, .int p1, .int p2] s (zKi K) := by
  refine zCall_of k_X8_hill (Nat.le_of_ble_eq_true rfl) (Nat.le_refl _) (fun _ => ?_)
  show zt l g (d + 1) M_X8_hill 0 [.ref 164, .int p0, .int p1, .int p2] [] s (zKi K)
  refine z_iload_n (i := 1) dX8_hill_0 rfl rfl rfl ?_
  refine z_callS (as := [.int p0]) k_X8_isPlace m_X8_157 rfl h rfl (Nat.le_of_ble_eq_true rfl) dX8_hill_1 zy200 rfl ?_
  rintro v s1 ⟨b2, rfl, hRs1, h⟩
  show zt l g (d + 1) M_X8_hill 4 [.ref 164, .int p0, .int p1, .int p2] [.int (zb b2)] s1 _
  refine z_ifb_eq (pt := 35) dX8_hill_4 (by decide) rfl (fun c => ?_) (fun c => ?_)
  · have h := zif h (by rw [c]; exact Bool.false_ne_true)
    refine z_iconst (v := (-1 : Int32)) dX8_hill_35 (by decide) rfl ?_
    exact z_ret (some (.int (-1 : Int32))) (Or.inr (Or.inl ⟨_, _, rfl, rfl, rfl, dX8_hill_36⟩)) zN200 ⟨_, rfl, h⟩
  · have h := zit h c
    refine z_iload_n (i := 2) dX8_hill_7 rfl rfl rfl ?_
    refine z_callS (as := [.int p1]) k_X8_isPlace m_X8_157 rfl h rfl (Nat.le_of_ble_eq_true rfl) dX8_hill_8 zy200 rfl ?_
    rintro v s3 ⟨b4, rfl, hRs3, h⟩
    show zt l g (d + 1) M_X8_hill 11 [.ref 164, .int p0, .int p1, .int p2] [.int (zb b4)] s3 _
    refine z_ifb_eq (pt := 35) dX8_hill_11 (by decide) rfl (fun c => ?_) (fun c => ?_)
    · have h := zif h (by rw [c]; exact Bool.false_ne_true)
      refine z_iconst (v := (-1 : Int32)) dX8_hill_35 (by decide) rfl ?_
      exact z_ret (some (.int (-1 : Int32))) (Or.inr (Or.inl ⟨_, _, rfl, rfl, rfl, dX8_hill_36⟩)) zN200 ⟨_, rfl, h⟩
    · have h := zit h c
      refine z_iload_n (i := 3) dX8_hill_14 rfl rfl rfl ?_
      refine z_i2l dX8_hill_15 rfl ?_
      refine z_lconst (v := (1 : Int64)) dX8_hill_16 (by decide) rfl ?_
      refine z_ldc2 (v := (60 : Int64)) q_X8_160 dX8_hill_17 rfl ?_
      refine z_in m_X8_147 dX8_hill_20 (Nat.le_of_ble_eq_true rfl) rfl ?_
      refine z_ifb_eq (pt := 35) dX8_hill_23 (by decide) rfl (fun c => ?_) (fun c => ?_)
      · have h := zif h (by rw [c]; exact Bool.false_ne_true)
        refine z_iconst (v := (-1 : Int32)) dX8_hill_35 (by decide) rfl ?_
        exact z_ret (some (.int (-1 : Int32))) (Or.inr (Or.inl ⟨_, _, rfl, rfl, rfl, dX8_hill_36⟩)) zN200 ⟨_, rfl, h⟩
      · have h := zit h c
        refine z_aload_n (i := 0) dX8_hill_26 rfl rfl rfl ?_
        refine z_getI (x := s3.1 164 17) rfl f_X8_162 i_164 rfl dX8_hill_27 rfl ?_
        refine z_bipush (v := (8 : Int32)) dX8_hill_30 (by decide) rfl ?_
        refine z_icmp_ne (pt := 37) dX8_hill_32 (by decide) rfl (fun c => ?_) (fun c => ?_)
        · have h := zif h c
          refine z_aload_n (i := 0) dX8_hill_37 rfl rfl rfl ?_
          refine z_getR (q := 165) f_X8_9 i_164 rfl (r_164_0 (zRok_of hRs3 (zRok_of hRs1 hR))) (by decide) dX8_hill_38 rfl ?_
          refine z_aload_n (i := 0) dX8_hill_41 rfl rfl rfl ?_
          refine z_getI (x := s3.1 164 17) rfl f_X8_162 i_164 rfl dX8_hill_42 rfl ?_
          refine z_iload_n (i := 1) dX8_hill_45 rfl rfl rfl ?_
          refine z_bipush (v := (64 : Int32)) dX8_hill_46 (by decide) rfl ?_
          refine z_idiv dX8_hill_48 (by decide) rfl ?_
          refine z_iload_n (i := 2) dX8_hill_49 rfl rfl rfl ?_
          refine z_bipush (v := (64 : Int32)) dX8_hill_50 (by decide) rfl ?_
          refine z_idiv dX8_hill_52 (by decide) rfl ?_
          refine z_mmin m_X8_165 dX8_hill_53 (Nat.le_of_ble_eq_true rfl) rfl ?_
          obtain ⟨a5, h⟩ := h
          have wa5 := vin a5
          refine z_iast a_165 a5 dX8_hill_56 rfl ?_
          show zt l g (d + 1) M_X8_hill 57 [.ref 164, .int p0, .int p1, .int p2] [] (zI s3 165 ((s3.1 164 17).toNatClampNeg) (zmin (p0 / (64 : Int32)) (p1 / (64 : Int32)))) _
          refine z_aload_n (i := 0) dX8_hill_57 rfl rfl rfl ?_
          refine z_getR (q := 167) f_X8_16 i_164 rfl (r_164_2 (zRok_of hRs3 (zRok_of hRs1 hR))) (by decide) dX8_hill_58 rfl ?_
          refine z_aload_n (i := 0) dX8_hill_61 rfl rfl rfl ?_
          refine z_getI (x := s3.1 164 17) (zI_o (by decide)) f_X8_162 i_164 rfl dX8_hill_62 rfl ?_
          refine z_iload_n (i := 1) dX8_hill_65 rfl rfl rfl ?_
          refine z_bipush (v := (64 : Int32)) dX8_hill_66 (by decide) rfl ?_
          refine z_idiv dX8_hill_68 (by decide) rfl ?_
          refine z_iload_n (i := 2) dX8_hill_69 rfl rfl rfl ?_
          refine z_bipush (v := (64 : Int32)) dX8_hill_70 (by decide) rfl ?_
          refine z_idiv dX8_hill_72 (by decide) rfl ?_
          refine z_mmax m_X8_171 dX8_hill_73 (Nat.le_of_ble_eq_true rfl) rfl ?_
          obtain ⟨a6, h⟩ := h
          have wa6 := vin a6
          refine z_iast a_167 a6 dX8_hill_76 rfl ?_
          show zt l g (d + 1) M_X8_hill 77 [.ref 164, .int p0, .int p1, .int p2] [] (zI (zI s3 165 ((s3.1 164 17).toNatClampNeg) (zmin (p0 / (64 : Int32)) (p1 / (64 : Int32)))) 167 ((s3.1 164 17).toNatClampNeg) (zmax (p0 / (64 : Int32)) (p1 / (64 : Int32)))) _
          refine z_aload_n (i := 0) dX8_hill_77 rfl rfl rfl ?_
          refine z_getR (q := 166) f_X8_13 i_164 rfl (r_164_1 (zRok_of hRs3 (zRok_of hRs1 hR))) (by decide) dX8_hill_78 rfl ?_
          refine z_aload_n (i := 0) dX8_hill_81 rfl rfl rfl ?_
          refine z_getI (x := s3.1 164 17) ((zI_o (by decide)).trans (zI_o (by decide))) f_X8_162 i_164 rfl dX8_hill_82 rfl ?_
          refine z_iload_n (i := 1) dX8_hill_85 rfl rfl rfl ?_
          refine z_bipush (v := (64 : Int32)) dX8_hill_86 (by decide) rfl ?_
          refine z_irem dX8_hill_88 (by decide) rfl ?_
          refine z_iload_n (i := 2) dX8_hill_89 rfl rfl rfl ?_
          refine z_bipush (v := (64 : Int32)) dX8_hill_90 (by decide) rfl ?_
          refine z_irem dX8_hill_92 (by decide) rfl ?_
          refine z_mmin m_X8_165 dX8_hill_93 (Nat.le_of_ble_eq_true rfl) rfl ?_
          obtain ⟨a7, h⟩ := h
          have wa7 := vin a7
          refine z_iast a_166 a7 dX8_hill_96 rfl ?_
          show zt l g (d + 1) M_X8_hill 97 [.ref 164, .int p0, .int p1, .int p2] [] (zI (zI (zI s3 165 ((s3.1 164 17).toNatClampNeg) (zmin (p0 / (64 : Int32)) (p1 / (64 : Int32)))) 167 ((s3.1 164 17).toNatClampNeg) (zmax (p0 / (64 : Int32)) (p1 / (64 : Int32)))) 166 ((s3.1 164 17).toNatClampNeg) (zmin (p0 % (64 : Int32)) (p1 % (64 : Int32)))) _
          refine z_aload_n (i := 0) dX8_hill_97 rfl rfl rfl ?_
          refine z_getR (q := 168) f_X8_19 i_164 rfl (r_164_3 (zRok_of hRs3 (zRok_of hRs1 hR))) (by decide) dX8_hill_98 rfl ?_
          refine z_aload_n (i := 0) dX8_hill_101 rfl rfl rfl ?_
          refine z_getI (x := s3.1 164 17) ((zI_o (by decide)).trans ((zI_o (by decide)).trans (zI_o (by decide)))) f_X8_162 i_164 rfl dX8_hill_102 rfl ?_
          refine z_iload_n (i := 1) dX8_hill_105 rfl rfl rfl ?_
          refine z_bipush (v := (64 : Int32)) dX8_hill_106 (by decide) rfl ?_
          refine z_irem dX8_hill_108 (by decide) rfl ?_
          refine z_iload_n (i := 2) dX8_hill_109 rfl rfl rfl ?_
          refine z_bipush (v := (64 : Int32)) dX8_hill_110 (by decide) rfl ?_
          refine z_irem dX8_hill_112 (by decide) rfl ?_
          refine z_mmax m_X8_171 dX8_hill_113 (Nat.le_of_ble_eq_true rfl) rfl ?_
          obtain ⟨a8, h⟩ := h
          have wa8 := vin a8
          refine z_iast a_168 a8 dX8_hill_116 rfl ?_
          show zt l g (d + 1) M_X8_hill 117 [.ref 164, .int p0, .int p1, .int p2] [] (zI (zI (zI (zI s3 165 ((s3.1 164 17).toNatClampNeg) (zmin (p0 / (64 : Int32)) (p1 / (64 : Int32)))) 167 ((s3.1 164 17).toNatClampNeg) (zmax (p0 / (64 : Int32)) (p1 / (64 : Int32)))) 166 ((s3.1 164 17).toNatClampNeg) (zmin (p0 % (64 : Int32)) (p1 % (64 : Int32)))) 168 ((s3.1 164 17).toNatClampNeg) (zmax (p0 % (64 : Int32)) (p1 % (64 : Int32)))) _
          refine z_aload_n (i := 0) dX8_hill_117 rfl rfl rfl ?_
          refine z_getR (q := 169) f_X8_22 i_164 rfl (r_164_4 (zRok_of hRs3 (zRok_of hRs1 hR))) (by decide) dX8_hill_118 rfl ?_
          refine z_aload_n (i := 0) dX8_hill_121 rfl rfl rfl ?_
          refine z_getI (x := s3.1 164 17) ((zI_o (by decide)).trans ((zI_o (by decide)).trans ((zI_o (by decide)).trans (zI_o (by decide))))) f_X8_162 i_164 rfl dX8_hill_122 rfl ?_
          refine z_iload_n (i := 3) dX8_hill_125 rfl rfl rfl ?_
          obtain ⟨a9, h⟩ := h
          have wa9 := vin a9
          refine z_iast a_169 a9 dX8_hill_126 rfl ?_
          show zt l g (d + 1) M_X8_hill 127 [.ref 164, .int p0, .int p1, .int p2] [] (zI (zI (zI (zI (zI s3 165 ((s3.1 164 17).toNatClampNeg) (zmin (p0 / (64 : Int32)) (p1 / (64 : Int32)))) 167 ((s3.1 164 17).toNatClampNeg) (zmax (p0 / (64 : Int32)) (p1 / (64 : Int32)))) 166 ((s3.1 164 17).toNatClampNeg) (zmin (p0 % (64 : Int32)) (p1 % (64 : Int32)))) 168 ((s3.1 164 17).toNatClampNeg) (zmax (p0 % (64 : Int32)) (p1 % (64 : Int32)))) 169 ((s3.1 164 17).toNatClampNeg) p2) _
          refine z_aload_n (i := 0) dX8_hill_127 rfl rfl rfl ?_
          refine z_dup dX8_hill_128 rfl rfl ?_
          refine z_getI (x := s3.1 164 17) ((zI_o (by decide)).trans ((zI_o (by decide)).trans ((zI_o (by decide)).trans ((zI_o (by decide)).trans (zI_o (by decide)))))) f_X8_162 i_164 rfl dX8_hill_129 rfl ?_
          refine z_iconst (v := (1 : Int32)) dX8_hill_132 (by decide) rfl ?_
          refine z_iadd dX8_hill_133 rfl ?_
          refine z_putI f_X8_162 i_164 rfl (Or.inl rfl) rfl rfl dX8_hill_134 rfl ?_
          refine z_aload_n (i := 0) dX8_hill_137 rfl rfl rfl ?_
          refine z_getI (x := (s3.1 164 17) + (1 : Int32)) zI_eq f_X8_162 i_164 rfl dX8_hill_138 rfl ?_
          refine z_iconst (v := (1 : Int32)) dX8_hill_141 (by decide) rfl ?_
          refine z_isub dX8_hill_142 rfl ?_
          exact z_ret (some (.int (((s3.1 164 17) + (1 : Int32)) - (1 : Int32)))) (Or.inr (Or.inl ⟨_, _, rfl, rfl, rfl, dX8_hill_143⟩)) zN200 ⟨_, rfl, h⟩
        · have h := zit h c
          refine z_iconst (v := (-1 : Int32)) dX8_hill_35 (by decide) rfl ?_
          exact z_ret (some (.int (-1 : Int32))) (Or.inr (Or.inl ⟨_, _, rfl, rfl, rfl, dX8_hill_36⟩)) zN200 ⟨_, rfl, h⟩
theorem dX8_hillAt_0 : decode cX8_hillAt 0 = .ok (.iconst (-1), 1) := by decide +kernel
theorem dX8_hillAt_1 : decode cX8_hillAt 1 = .ok (.istore_n 3, 1) := by decide +kernel
theorem dX8_hillAt_2 : decode cX8_hillAt 2 = .ok (.iconst 0, 1) := by decide +kernel
theorem dX8_hillAt_3 : decode cX8_hillAt 3 = .ok (.istore 4, 2) := by decide +kernel
theorem dX8_hillAt_5 : decode cX8_hillAt 5 = .ok (.iload 4, 2) := by decide +kernel
theorem dX8_hillAt_7 : decode cX8_hillAt 7 = .ok (.aload_n 0, 1) := by decide +kernel
theorem dX8_hillAt_8 : decode cX8_hillAt 8 = .ok (.getfield 162, 3) := by decide +kernel
theorem dX8_hillAt_11 : decode cX8_hillAt 11 = .ok (.if_icmp .ge 81, 3) := by decide +kernel
theorem dX8_hillAt_14 : decode cX8_hillAt 14 = .ok (.iload_n 1, 1) := by decide +kernel
theorem dX8_hillAt_15 : decode cX8_hillAt 15 = .ok (.i2l, 1) := by decide +kernel
theorem dX8_hillAt_16 : decode cX8_hillAt 16 = .ok (.aload_n 0, 1) := by decide +kernel
theorem dX8_hillAt_17 : decode cX8_hillAt 17 = .ok (.getfield 9, 3) := by decide +kernel
theorem dX8_hillAt_20 : decode cX8_hillAt 20 = .ok (.iload 4, 2) := by decide +kernel
theorem dX8_hillAt_22 : decode cX8_hillAt 22 = .ok (.iaload, 1) := by decide +kernel
theorem dX8_hillAt_23 : decode cX8_hillAt 23 = .ok (.i2l, 1) := by decide +kernel
theorem dX8_hillAt_24 : decode cX8_hillAt 24 = .ok (.aload_n 0, 1) := by decide +kernel
theorem dX8_hillAt_25 : decode cX8_hillAt 25 = .ok (.getfield 16, 3) := by decide +kernel
theorem dX8_hillAt_28 : decode cX8_hillAt 28 = .ok (.iload 4, 2) := by decide +kernel
theorem dX8_hillAt_30 : decode cX8_hillAt 30 = .ok (.iaload, 1) := by decide +kernel
theorem dX8_hillAt_31 : decode cX8_hillAt 31 = .ok (.i2l, 1) := by decide +kernel
theorem dX8_hillAt_32 : decode cX8_hillAt 32 = .ok (.invokestatic 147, 3) := by decide +kernel
theorem dX8_hillAt_35 : decode cX8_hillAt 35 = .ok (.ifCond .eq 51, 3) := by decide +kernel
theorem dX8_hillAt_38 : decode cX8_hillAt 38 = .ok (.iload_n 2, 1) := by decide +kernel
theorem dX8_hillAt_39 : decode cX8_hillAt 39 = .ok (.i2l, 1) := by decide +kernel
theorem dX8_hillAt_40 : decode cX8_hillAt 40 = .ok (.aload_n 0, 1) := by decide +kernel
theorem dX8_hillAt_41 : decode cX8_hillAt 41 = .ok (.getfield 13, 3) := by decide +kernel
theorem dX8_hillAt_44 : decode cX8_hillAt 44 = .ok (.iload 4, 2) := by decide +kernel
theorem dX8_hillAt_46 : decode cX8_hillAt 46 = .ok (.iaload, 1) := by decide +kernel
theorem dX8_hillAt_47 : decode cX8_hillAt 47 = .ok (.i2l, 1) := by decide +kernel
theorem dX8_hillAt_48 : decode cX8_hillAt 48 = .ok (.aload_n 0, 1) := by decide +kernel
theorem dX8_hillAt_49 : decode cX8_hillAt 49 = .ok (.getfield 19, 3) := by decide +kernel
theorem dX8_hillAt_52 : decode cX8_hillAt 52 = .ok (.iload 4, 2) := by decide +kernel
theorem dX8_hillAt_54 : decode cX8_hillAt 54 = .ok (.iaload, 1) := by decide +kernel
theorem dX8_hillAt_55 : decode cX8_hillAt 55 = .ok (.i2l, 1) := by decide +kernel
theorem dX8_hillAt_56 : decode cX8_hillAt 56 = .ok (.invokestatic 147, 3) := by decide +kernel
theorem dX8_hillAt_59 : decode cX8_hillAt 59 = .ok (.ifCond .eq 27, 3) := by decide +kernel
theorem dX8_hillAt_62 : decode cX8_hillAt 62 = .ok (.iload_n 3, 1) := by decide +kernel
theorem dX8_hillAt_63 : decode cX8_hillAt 63 = .ok (.iconst (-1), 1) := by decide +kernel
theorem dX8_hillAt_64 : decode cX8_hillAt 64 = .ok (.if_icmp .eq 19, 3) := by decide +kernel
theorem dX8_hillAt_67 : decode cX8_hillAt 67 = .ok (.aload_n 0, 1) := by decide +kernel
theorem dX8_hillAt_68 : decode cX8_hillAt 68 = .ok (.getfield 22, 3) := by decide +kernel
theorem dX8_hillAt_71 : decode cX8_hillAt 71 = .ok (.iload 4, 2) := by decide +kernel
theorem dX8_hillAt_73 : decode cX8_hillAt 73 = .ok (.iaload, 1) := by decide +kernel
theorem dX8_hillAt_74 : decode cX8_hillAt 74 = .ok (.aload_n 0, 1) := by decide +kernel
theorem dX8_hillAt_75 : decode cX8_hillAt 75 = .ok (.getfield 22, 3) := by decide +kernel
theorem dX8_hillAt_78 : decode cX8_hillAt 78 = .ok (.iload_n 3, 1) := by decide +kernel
theorem dX8_hillAt_79 : decode cX8_hillAt 79 = .ok (.iaload, 1) := by decide +kernel
theorem dX8_hillAt_80 : decode cX8_hillAt 80 = .ok (.if_icmp .le 6, 3) := by decide +kernel
theorem dX8_hillAt_83 : decode cX8_hillAt 83 = .ok (.iload 4, 2) := by decide +kernel
theorem dX8_hillAt_85 : decode cX8_hillAt 85 = .ok (.istore_n 3, 1) := by decide +kernel
theorem dX8_hillAt_86 : decode cX8_hillAt 86 = .ok (.iinc 4 1, 3) := by decide +kernel
theorem dX8_hillAt_89 : decode cX8_hillAt 89 = .ok (.goto (-84), 3) := by decide +kernel
theorem dX8_hillAt_92 : decode cX8_hillAt 92 = .ok (.iload_n 3, 1) := by decide +kernel
theorem dX8_hillAt_93 : decode cX8_hillAt 93 = .ok (.ireturn, 1) := by decide +kernel
set_option maxHeartbeats 4000000 in
set_option maxRecDepth 100000 in
theorem t_X8_hillAt {l : Launch} {g : zG} {d : Nat} {s : zS} (hR : zRok s) {p0 : Int32} {p1 : Int32} {K : Int32 → zS → Prop} (h : zt l g (d + 1) M_X8_hillAt 5 [.ref 164, .int p0, .int p1, .int (-1 : Int32), .int (0 : Int32)] [] s (zKi K)) : zc l g (d + 1) M_X8_hillAt [.ref 164, .int p0, .int p1] s (zKi K) := by
  refine zCall_of k_X8_hillAt (Nat.le_of_ble_eq_true rfl) (Nat.le_refl _) (fun _ => ?_)
  show zt l g (d + 1) M_X8_hillAt 0 [.ref 164, .int p0, .int p1, zJ, zJ] [] s (zKi K)
  refine z_iconst (v := (-1 : Int32)) dX8_hillAt_0 (by decide) rfl ?_
  refine z_istore_n (i := 3) dX8_hillAt_1 rfl (by decide) (zokd rfl) rfl ?_
  show zt l g (d + 1) M_X8_hillAt 2 [.ref 164, .int p0, .int p1, .int (-1 : Int32), zJ] [] s _
  refine z_iconst (v := (0 : Int32)) dX8_hillAt_2 (by decide) rfl ?_
  refine z_istore dX8_hillAt_3 (by decide) (zokd rfl) rfl ?_
  show zt l g (d + 1) M_X8_hillAt 5 [.ref 164, .int p0, .int p1, .int (-1 : Int32), .int (0 : Int32)] [] s _
  exact h
set_option maxHeartbeats 4000000 in
set_option maxRecDepth 100000 in
theorem t_X8_hillAt_5 {l : Launch} {g : zG} {d : Nat} {s : zS} (hR : zRok s) {x1 : Int32} {x2 : Int32} {x3 : Int32} {x4 : Int32} {K : Int32 → zS → Prop} (h : (if (s.1 164 17) ≤ x4 then K x3 s else (vp_in x4 8 ∧ (vp_in x4 8 ∧ (if (zinr x1.toInt64 ((s.1 165 x4.toNatClampNeg).toInt64) ((s.1 167 x4.toNatClampNeg).toInt64)) = true then (vp_in x4 8 ∧ (vp_in x4 8 ∧ (if (zinr x2.toInt64 ((s.1 166 x4.toNatClampNeg).toInt64) ((s.1 168 x4.toNatClampNeg).toInt64)) = true then (if x3 = (-1 : Int32) then zt l g (d + 1) M_X8_hillAt 5 [.ref 164, .int x1, .int x2, .int x4, .int (x4 + (1 : Int32))] [] s (zKi K) else (vp_in x4 8 ∧ (vp_in x3 8 ∧ (if (s.1 169 x4.toNatClampNeg) ≤ (s.1 169 x3.toNatClampNeg) then zt l g (d + 1) M_X8_hillAt 5 [.ref 164, .int x1, .int x2, .int x3, .int (x4 + (1 : Int32))] [] s (zKi K) else zt l g (d + 1) M_X8_hillAt 5 [.ref 164, .int x1, .int x2, .int x4, .int (x4 + (1 : Int32))] [] s (zKi K))))) else zt l g (d + 1) M_X8_hillAt 5 [.ref 164, .int x1, .int x2, .int x3, .int (x4 + (1 : Int32))] [] s (zKi K)))) else zt l g (d + 1) M_X8_hillAt 5 [.ref 164, .int x1, .int x2, .int x3, .int (x4 + (1 : Int32))] [] s (zKi K)))))) : zt l g (d + 1) M_X8_hillAt 5 [.ref 164, .int x1, .int x2, .int x3, .int x4] [] s (zKi K) := by
  refine z_iload dX8_hillAt_5 rfl rfl ?_
  refine z_aload_n (i := 0) dX8_hillAt_7 rfl rfl rfl ?_
  refine z_getI (x := s.1 164 17) rfl f_X8_162 i_164 rfl dX8_hillAt_8 rfl ?_
  refine z_icmp_ge (pt := 92) dX8_hillAt_11 (by decide) rfl (fun c => ?_) (fun c => ?_)
  · have h := zit h c
    refine z_iload_n (i := 3) dX8_hillAt_92 rfl rfl rfl ?_
    exact z_ret (some (.int x3)) (Or.inr (Or.inl ⟨_, _, rfl, rfl, rfl, dX8_hillAt_93⟩)) zN200 ⟨_, rfl, h⟩
  · have h := zif h c
    refine z_iload_n (i := 1) dX8_hillAt_14 rfl rfl rfl ?_
    refine z_i2l dX8_hillAt_15 rfl ?_
    refine z_aload_n (i := 0) dX8_hillAt_16 rfl rfl rfl ?_
    refine z_getR (q := 165) f_X8_9 i_164 rfl (r_164_0 hR) (by decide) dX8_hillAt_17 rfl ?_
    refine z_iload dX8_hillAt_20 rfl rfl ?_
    obtain ⟨a1, h⟩ := h
    have wa1 := vin a1
    refine z_iald (x := s.1 165 x4.toNatClampNeg) rfl a_165 a1 dX8_hillAt_22 rfl ?_
    refine z_i2l dX8_hillAt_23 rfl ?_
    refine z_aload_n (i := 0) dX8_hillAt_24 rfl rfl rfl ?_
    refine z_getR (q := 167) f_X8_16 i_164 rfl (r_164_2 hR) (by decide) dX8_hillAt_25 rfl ?_
    refine z_iload dX8_hillAt_28 rfl rfl ?_
    obtain ⟨a2, h⟩ := h
    have wa2 := vin a2
    refine z_iald (x := s.1 167 x4.toNatClampNeg) rfl a_167 a2 dX8_hillAt_30 rfl ?_
    refine z_i2l dX8_hillAt_31 rfl ?_
    refine z_in m_X8_147 dX8_hillAt_32 (Nat.le_of_ble_eq_true rfl) rfl ?_
    refine z_ifb_eq (pt := 86) dX8_hillAt_35 (by decide) rfl (fun c => ?_) (fun c => ?_)
    · have h := zif h (by rw [c]; exact Bool.false_ne_true)
      refine z_iinc (v := x4 + (1 : Int32)) dX8_hillAt_86 rfl rfl (by decide) (zokd rfl) rfl ?_
      show zt l g (d + 1) M_X8_hillAt 89 [.ref 164, .int x1, .int x2, .int x3, .int (x4 + (1 : Int32))] [] s _
      refine z_goto (pn := 5) dX8_hillAt_89 (by decide) ?_
      exact h
    · have h := zit h c
      refine z_iload_n (i := 2) dX8_hillAt_38 rfl rfl rfl ?_
      refine z_i2l dX8_hillAt_39 rfl ?_
      refine z_aload_n (i := 0) dX8_hillAt_40 rfl rfl rfl ?_
      refine z_getR (q := 166) f_X8_13 i_164 rfl (r_164_1 hR) (by decide) dX8_hillAt_41 rfl ?_
      refine z_iload dX8_hillAt_44 rfl rfl ?_
      obtain ⟨a3, h⟩ := h
      have wa3 := vin a3
      refine z_iald (x := s.1 166 x4.toNatClampNeg) rfl a_166 a3 dX8_hillAt_46 rfl ?_
      refine z_i2l dX8_hillAt_47 rfl ?_
      refine z_aload_n (i := 0) dX8_hillAt_48 rfl rfl rfl ?_
      refine z_getR (q := 168) f_X8_19 i_164 rfl (r_164_3 hR) (by decide) dX8_hillAt_49 rfl ?_
      refine z_iload dX8_hillAt_52 rfl rfl ?_
      obtain ⟨a4, h⟩ := h
      have wa4 := vin a4
      refine z_iald (x := s.1 168 x4.toNatClampNeg) rfl a_168 a4 dX8_hillAt_54 rfl ?_
      refine z_i2l dX8_hillAt_55 rfl ?_
      refine z_in m_X8_147 dX8_hillAt_56 (Nat.le_of_ble_eq_true rfl) rfl ?_
      refine z_ifb_eq (pt := 86) dX8_hillAt_59 (by decide) rfl (fun c => ?_) (fun c => ?_)
      · have h := zif h (by rw [c]; exact Bool.false_ne_true)
        refine z_iinc (v := x4 + (1 : Int32)) dX8_hillAt_86 rfl rfl (by decide) (zokd rfl) rfl ?_
        show zt l g (d + 1) M_X8_hillAt 89 [.ref 164, .int x1, .int x2, .int x3, .int (x4 + (1 : Int32))] [] s _
        refine z_goto (pn := 5) dX8_hillAt_89 (by decide) ?_
        exact h
      · have h := zit h c
        refine z_iload_n (i := 3) dX8_hillAt_62 rfl rfl rfl ?_
        refine z_iconst (v := (-1 : Int32)) dX8_hillAt_63 (by decide) rfl ?_
        refine z_icmp_eq (pt := 83) dX8_hillAt_64 (by decide) rfl (fun c => ?_) (fun c => ?_)
        · have h := zit h c
          refine z_iload dX8_hillAt_83 rfl rfl ?_
          refine z_istore_n (i := 3) dX8_hillAt_85 rfl (by decide) (zokd rfl) rfl ?_
          show zt l g (d + 1) M_X8_hillAt 86 [.ref 164, .int x1, .int x2, .int x4, .int x4] [] s _
          refine z_iinc (v := x4 + (1 : Int32)) dX8_hillAt_86 rfl rfl (by decide) (zokd rfl) rfl ?_
          show zt l g (d + 1) M_X8_hillAt 89 [.ref 164, .int x1, .int x2, .int x4, .int (x4 + (1 : Int32))] [] s _
          refine z_goto (pn := 5) dX8_hillAt_89 (by decide) ?_
          exact h
        · have h := zif h c
          refine z_aload_n (i := 0) dX8_hillAt_67 rfl rfl rfl ?_
          refine z_getR (q := 169) f_X8_22 i_164 rfl (r_164_4 hR) (by decide) dX8_hillAt_68 rfl ?_
          refine z_iload dX8_hillAt_71 rfl rfl ?_
          obtain ⟨a5, h⟩ := h
          have wa5 := vin a5
          refine z_iald (x := s.1 169 x4.toNatClampNeg) rfl a_169 a5 dX8_hillAt_73 rfl ?_
          refine z_aload_n (i := 0) dX8_hillAt_74 rfl rfl rfl ?_
          refine z_getR (q := 169) f_X8_22 i_164 rfl (r_164_4 hR) (by decide) dX8_hillAt_75 rfl ?_
          refine z_iload_n (i := 3) dX8_hillAt_78 rfl rfl rfl ?_
          obtain ⟨a6, h⟩ := h
          have wa6 := vin a6
          refine z_iald (x := s.1 169 x3.toNatClampNeg) rfl a_169 a6 dX8_hillAt_79 rfl ?_
          refine z_icmp_le (pt := 86) dX8_hillAt_80 (by decide) rfl (fun c => ?_) (fun c => ?_)
          · have h := zit h c
            refine z_iinc (v := x4 + (1 : Int32)) dX8_hillAt_86 rfl rfl (by decide) (zokd rfl) rfl ?_
            show zt l g (d + 1) M_X8_hillAt 89 [.ref 164, .int x1, .int x2, .int x3, .int (x4 + (1 : Int32))] [] s _
            refine z_goto (pn := 5) dX8_hillAt_89 (by decide) ?_
            exact h
          · have h := zif h c
            refine z_iload dX8_hillAt_83 rfl rfl ?_
            refine z_istore_n (i := 3) dX8_hillAt_85 rfl (by decide) (zokd rfl) rfl ?_
            show zt l g (d + 1) M_X8_hillAt 86 [.ref 164, .int x1, .int x2, .int x4, .int x4] [] s _
            refine z_iinc (v := x4 + (1 : Int32)) dX8_hillAt_86 rfl rfl (by decide) (zokd rfl) rfl ?_
            show zt l g (d + 1) M_X8_hillAt 89 [.ref 164, .int x1, .int x2, .int x4, .int (x4 + (1 : Int32))] [] s _
            refine z_goto (pn := 5) dX8_hillAt_89 (by decide) ?_
            exact h
theorem dX8_groundAt_0 : decode cX8_groundAt 0 = .ok (.aload_n 0, 1) := by decide +kernel
theorem dX8_groundAt_1 : decode cX8_groundAt 1 = .ok (.iload_n 1, 1) := by decide +kernel
theorem dX8_groundAt_2 : decode cX8_groundAt 2 = .ok (.iload_n 2, 1) := by decide +kernel
theorem dX8_groundAt_3 : decode cX8_groundAt 3 = .ok (.invokevirtual 174, 3) := by decide +kernel
theorem dX8_groundAt_6 : decode cX8_groundAt 6 = .ok (.istore_n 3, 1) := by decide +kernel
theorem dX8_groundAt_7 : decode cX8_groundAt 7 = .ok (.iload_n 3, 1) := by decide +kernel
theorem dX8_groundAt_8 : decode cX8_groundAt 8 = .ok (.iconst (-1), 1) := by decide +kernel
theorem dX8_groundAt_9 : decode cX8_groundAt 9 = .ok (.if_icmp .ne 7, 3) := by decide +kernel
theorem dX8_groundAt_12 : decode cX8_groundAt 12 = .ok (.iconst 0, 1) := by decide +kernel
theorem dX8_groundAt_13 : decode cX8_groundAt 13 = .ok (.goto 9, 3) := by decide +kernel
theorem dX8_groundAt_16 : decode cX8_groundAt 16 = .ok (.aload_n 0, 1) := by decide +kernel
theorem dX8_groundAt_17 : decode cX8_groundAt 17 = .ok (.getfield 22, 3) := by decide +kernel
theorem dX8_groundAt_20 : decode cX8_groundAt 20 = .ok (.iload_n 3, 1) := by decide +kernel
theorem dX8_groundAt_21 : decode cX8_groundAt 21 = .ok (.iaload, 1) := by decide +kernel
theorem dX8_groundAt_22 : decode cX8_groundAt 22 = .ok (.ireturn, 1) := by decide +kernel
set_option maxHeartbeats 4000000 in
set_option maxRecDepth 100000 in
theorem t_X8_groundAt {l : Launch} {g : zG} {d : Nat} {s : zS} (hR : zRok s) {p0 : Int32} {p1 : Int32} {K : Int32 → zS → Prop} (h : (zc l g d M_X8_hillAt [.ref 164, .int p0, .int p1] s (zKi (fun r2 s1 => s1.2.2.1 = s.2.2.1 ∧ (if r2 = (-1 : Int32) then K (0 : Int32) s1 else (vp_in r2 8 ∧ K (s1.1 169 r2.toNatClampNeg) s1)))))) : zc l g (d + 1) M_X8_groundAt [.ref 164, .int p0, .int p1] s (zKi K) := by
  refine zCall_of k_X8_groundAt (Nat.le_of_ble_eq_true rfl) (Nat.le_refl _) (fun _ => ?_)
  show zt l g (d + 1) M_X8_groundAt 0 [.ref 164, .int p0, .int p1, zJ] [] s (zKi K)
  refine z_aload_n (i := 0) dX8_groundAt_0 rfl rfl rfl ?_
  refine z_iload_n (i := 1) dX8_groundAt_1 rfl rfl rfl ?_
  refine z_iload_n (i := 2) dX8_groundAt_2 rfl rfl rfl ?_
  refine z_callV k_X8_hillAt m_X8_174 (zRec_of i_164) rfl h rfl (Nat.le_of_ble_eq_true rfl) dX8_groundAt_3 zy200 rfl ?_
  rintro v s1 ⟨r2, rfl, hRs1, h⟩
  show zt l g (d + 1) M_X8_groundAt 6 [.ref 164, .int p0, .int p1, zJ] [.int r2] s1 _
  refine z_istore_n (i := 3) dX8_groundAt_6 rfl (by decide) (zokd rfl) rfl ?_
  show zt l g (d + 1) M_X8_groundAt 7 [.ref 164, .int p0, .int p1, .int r2] [] s1 _
  refine z_iload_n (i := 3) dX8_groundAt_7 rfl rfl rfl ?_
  refine z_iconst (v := (-1 : Int32)) dX8_groundAt_8 (by decide) rfl ?_
  refine z_icmp_ne (pt := 16) dX8_groundAt_9 (by decide) rfl (fun c => ?_) (fun c => ?_)
  · have h := zif h c
    refine z_aload_n (i := 0) dX8_groundAt_16 rfl rfl rfl ?_
    refine z_getR (q := 169) f_X8_22 i_164 rfl (r_164_4 (zRok_of hRs1 hR)) (by decide) dX8_groundAt_17 rfl ?_
    refine z_iload_n (i := 3) dX8_groundAt_20 rfl rfl rfl ?_
    obtain ⟨a3, h⟩ := h
    have wa3 := vin a3
    refine z_iald (x := s1.1 169 r2.toNatClampNeg) rfl a_169 a3 dX8_groundAt_21 rfl ?_
    exact z_ret (some (.int (s1.1 169 r2.toNatClampNeg))) (Or.inr (Or.inl ⟨_, _, rfl, rfl, rfl, dX8_groundAt_22⟩)) zN200 ⟨_, rfl, h⟩
  · have h := zit h c
    refine z_iconst (v := (0 : Int32)) dX8_groundAt_12 (by decide) rfl ?_
    refine z_goto (pn := 22) dX8_groundAt_13 (by decide) ?_
    exact z_ret (some (.int (0 : Int32))) (Or.inr (Or.inl ⟨_, _, rfl, rfl, rfl, dX8_groundAt_22⟩)) zN200 ⟨_, rfl, h⟩
theorem dX8_ground_0 : decode cX8_ground 0 = .ok (.iload_n 1, 1) := by decide +kernel
theorem dX8_ground_1 : decode cX8_ground 1 = .ok (.invokestatic 157, 3) := by decide +kernel
theorem dX8_ground_4 : decode cX8_ground 4 = .ok (.ifCond .eq 18, 3) := by decide +kernel
theorem dX8_ground_7 : decode cX8_ground 7 = .ok (.aload_n 0, 1) := by decide +kernel
theorem dX8_ground_8 : decode cX8_ground 8 = .ok (.iload_n 1, 1) := by decide +kernel
theorem dX8_ground_9 : decode cX8_ground 9 = .ok (.bipush 64, 2) := by decide +kernel
theorem dX8_ground_11 : decode cX8_ground 11 = .ok (.idiv, 1) := by decide +kernel
theorem dX8_ground_12 : decode cX8_ground 12 = .ok (.iload_n 1, 1) := by decide +kernel
theorem dX8_ground_13 : decode cX8_ground 13 = .ok (.bipush 64, 2) := by decide +kernel
theorem dX8_ground_15 : decode cX8_ground 15 = .ok (.irem, 1) := by decide +kernel
theorem dX8_ground_16 : decode cX8_ground 16 = .ok (.invokevirtual 177, 3) := by decide +kernel
theorem dX8_ground_19 : decode cX8_ground 19 = .ok (.goto 4, 3) := by decide +kernel
theorem dX8_ground_22 : decode cX8_ground 22 = .ok (.iconst (-1), 1) := by decide +kernel
theorem dX8_ground_23 : decode cX8_ground 23 = .ok (.ireturn, 1) := by decide +kernel
set_option maxHeartbeats 4000000 in
set_option maxRecDepth 100000 in
theorem t_X8_ground {l : Launch} {g : zG} {d : Nat} {s : zS} (hR : zRok s) {p0 : Int32} {K : Int32 → zS → Prop} (h : (zc l g d M_X8_isPlace [.int p0] s (zKz (fun b2 s1 => s1.2.2.1 = s.2.2.1 ∧ (if b2 = true then (zc l g d M_X8_groundAt [.ref 164, .int (p0 / (64 : Int32)), .int (p0 % (64 : Int32))] s1 (zKi (fun r4 s3 => s3.2.2.1 = s1.2.2.1 ∧ K r4 s3))) else K (-1 : Int32) s1))))) : zc l g (d + 1) M_X8_ground [.ref 164, .int p0] s (zKi K) := by
  refine zCall_of k_X8_ground (Nat.le_of_ble_eq_true rfl) (Nat.le_refl _) (fun _ => ?_)
  show zt l g (d + 1) M_X8_ground 0 [.ref 164, .int p0] [] s (zKi K)
  refine z_iload_n (i := 1) dX8_ground_0 rfl rfl rfl ?_
  refine z_callS (as := [.int p0]) k_X8_isPlace m_X8_157 rfl h rfl (Nat.le_of_ble_eq_true rfl) dX8_ground_1 zy200 rfl ?_
  rintro v s1 ⟨b2, rfl, hRs1, h⟩
  show zt l g (d + 1) M_X8_ground 4 [.ref 164, .int p0] [.int (zb b2)] s1 _
  refine z_ifb_eq (pt := 22) dX8_ground_4 (by decide) rfl (fun c => ?_) (fun c => ?_)
  · have h := zif h (by rw [c]; exact Bool.false_ne_true)
    refine z_iconst (v := (-1 : Int32)) dX8_ground_22 (by decide) rfl ?_
    exact z_ret (some (.int (-1 : Int32))) (Or.inr (Or.inl ⟨_, _, rfl, rfl, rfl, dX8_ground_23⟩)) zN200 ⟨_, rfl, h⟩
  · have h := zit h c
    refine z_aload_n (i := 0) dX8_ground_7 rfl rfl rfl ?_
    refine z_iload_n (i := 1) dX8_ground_8 rfl rfl rfl ?_
    refine z_bipush (v := (64 : Int32)) dX8_ground_9 (by decide) rfl ?_
    refine z_idiv dX8_ground_11 (by decide) rfl ?_
    refine z_iload_n (i := 1) dX8_ground_12 rfl rfl rfl ?_
    refine z_bipush (v := (64 : Int32)) dX8_ground_13 (by decide) rfl ?_
    refine z_irem dX8_ground_15 (by decide) rfl ?_
    refine z_callV k_X8_groundAt m_X8_177 (zRec_of i_164) rfl h rfl (Nat.le_of_ble_eq_true rfl) dX8_ground_16 zy200 rfl ?_
    rintro v s3 ⟨r4, rfl, hRs3, h⟩
    show zt l g (d + 1) M_X8_ground 19 [.ref 164, .int p0] [.int r4] s3 _
    refine z_goto (pn := 23) dX8_ground_19 (by decide) ?_
    exact z_ret (some (.int r4)) (Or.inr (Or.inl ⟨_, _, rfl, rfl, rfl, dX8_ground_23⟩)) zN200 ⟨_, rfl, h⟩
theorem dX8_seer_0 : decode cX8_seer 0 = .ok (.iload_n 1, 1) := by decide +kernel
theorem dX8_seer_1 : decode cX8_seer 1 = .ok (.invokestatic 157, 3) := by decide +kernel
theorem dX8_seer_4 : decode cX8_seer 4 = .ok (.ifCond .eq 12, 3) := by decide +kernel
theorem dX8_seer_7 : decode cX8_seer 7 = .ok (.aload_n 0, 1) := by decide +kernel
theorem dX8_seer_8 : decode cX8_seer 8 = .ok (.getfield 180, 3) := by decide +kernel
theorem dX8_seer_11 : decode cX8_seer 11 = .ok (.bipush 20, 2) := by decide +kernel
theorem dX8_seer_13 : decode cX8_seer 13 = .ok (.if_icmp .ne 5, 3) := by decide +kernel
theorem dX8_seer_16 : decode cX8_seer 16 = .ok (.iconst (-1), 1) := by decide +kernel
theorem dX8_seer_17 : decode cX8_seer 17 = .ok (.ireturn, 1) := by decide +kernel
theorem dX8_seer_18 : decode cX8_seer 18 = .ok (.aload_n 0, 1) := by decide +kernel
theorem dX8_seer_19 : decode cX8_seer 19 = .ok (.getfield 25, 3) := by decide +kernel
theorem dX8_seer_22 : decode cX8_seer 22 = .ok (.aload_n 0, 1) := by decide +kernel
theorem dX8_seer_23 : decode cX8_seer 23 = .ok (.getfield 180, 3) := by decide +kernel
theorem dX8_seer_26 : decode cX8_seer 26 = .ok (.iload_n 1, 1) := by decide +kernel
theorem dX8_seer_27 : decode cX8_seer 27 = .ok (.bipush 64, 2) := by decide +kernel
theorem dX8_seer_29 : decode cX8_seer 29 = .ok (.idiv, 1) := by decide +kernel
theorem dX8_seer_30 : decode cX8_seer 30 = .ok (.iastore, 1) := by decide +kernel
theorem dX8_seer_31 : decode cX8_seer 31 = .ok (.aload_n 0, 1) := by decide +kernel
theorem dX8_seer_32 : decode cX8_seer 32 = .ok (.getfield 28, 3) := by decide +kernel
theorem dX8_seer_35 : decode cX8_seer 35 = .ok (.aload_n 0, 1) := by decide +kernel
theorem dX8_seer_36 : decode cX8_seer 36 = .ok (.getfield 180, 3) := by decide +kernel
theorem dX8_seer_39 : decode cX8_seer 39 = .ok (.iload_n 1, 1) := by decide +kernel
theorem dX8_seer_40 : decode cX8_seer 40 = .ok (.bipush 64, 2) := by decide +kernel
theorem dX8_seer_42 : decode cX8_seer 42 = .ok (.irem, 1) := by decide +kernel
theorem dX8_seer_43 : decode cX8_seer 43 = .ok (.iastore, 1) := by decide +kernel
theorem dX8_seer_44 : decode cX8_seer 44 = .ok (.aload_n 0, 1) := by decide +kernel
theorem dX8_seer_45 : decode cX8_seer 45 = .ok (.dup, 1) := by decide +kernel
theorem dX8_seer_46 : decode cX8_seer 46 = .ok (.getfield 180, 3) := by decide +kernel
theorem dX8_seer_49 : decode cX8_seer 49 = .ok (.iconst 1, 1) := by decide +kernel
theorem dX8_seer_50 : decode cX8_seer 50 = .ok (.iadd, 1) := by decide +kernel
theorem dX8_seer_51 : decode cX8_seer 51 = .ok (.putfield 180, 3) := by decide +kernel
theorem dX8_seer_54 : decode cX8_seer 54 = .ok (.aload_n 0, 1) := by decide +kernel
theorem dX8_seer_55 : decode cX8_seer 55 = .ok (.getfield 180, 3) := by decide +kernel
theorem dX8_seer_58 : decode cX8_seer 58 = .ok (.iconst 1, 1) := by decide +kernel
theorem dX8_seer_59 : decode cX8_seer 59 = .ok (.isub, 1) := by decide +kernel
theorem dX8_seer_60 : decode cX8_seer 60 = .ok (.ireturn, 1) := by decide +kernel
set_option maxHeartbeats 4000000 in
set_option maxRecDepth 100000 in
theorem t_X8_seer {l : Launch} {g : zG} {d : Nat} {s : zS} (hR : zRok s) {p0 : Int32} {K : Int32 → zS → Prop} (h : (zc l g d M_X8_isPlace [.int p0] s (zKz (fun b2 s1 => s1.2.2.1 = s.2.2.1 ∧ (if b2 = true then (if (s1.1 164 18) = (20 : Int32) then K (-1 : Int32) s1 else (vp_in (s1.1 164 18) 20 ∧ (vp_in (s1.1 164 18) 20 ∧ K (((s1.1 164 18) + (1 : Int32)) - (1 : Int32)) (zI (zI (zI s1 170 ((s1.1 164 18).toNatClampNeg) (p0 / (64 : Int32))) 171 ((s1.1 164 18).toNatClampNeg) (p0 % (64 : Int32))) 164 18 ((s1.1 164 18) + (1 : Int32)))))) else K (-1 : Int32) s1))))) : zc l g (d + 1) M_X8_seer [.ref 164, .int p0] s (zKi K) := by
  refine zCall_of k_X8_seer (Nat.le_of_ble_eq_true rfl) (Nat.le_refl _) (fun _ => ?_)
  show zt l g (d + 1) M_X8_seer 0 [.ref 164, .int p0] [] s (zKi K)
  refine z_iload_n (i := 1) dX8_seer_0 rfl rfl rfl ?_
  refine z_callS (as := [.int p0]) k_X8_isPlace m_X8_157 rfl h rfl (Nat.le_of_ble_eq_true rfl) dX8_seer_1 zy200 rfl ?_
  rintro v s1 ⟨b2, rfl, hRs1, h⟩
  show zt l g (d + 1) M_X8_seer 4 [.ref 164, .int p0] [.int (zb b2)] s1 _
  refine z_ifb_eq (pt := 16) dX8_seer_4 (by decide) rfl (fun c => ?_) (fun c => ?_)
  · have h := zif h (by rw [c]; exact Bool.false_ne_true)
    refine z_iconst (v := (-1 : Int32)) dX8_seer_16 (by decide) rfl ?_
    exact z_ret (some (.int (-1 : Int32))) (Or.inr (Or.inl ⟨_, _, rfl, rfl, rfl, dX8_seer_17⟩)) zN200 ⟨_, rfl, h⟩
  · have h := zit h c
    refine z_aload_n (i := 0) dX8_seer_7 rfl rfl rfl ?_
    refine z_getI (x := s1.1 164 18) rfl f_X8_180 i_164 rfl dX8_seer_8 rfl ?_
    refine z_bipush (v := (20 : Int32)) dX8_seer_11 (by decide) rfl ?_
    refine z_icmp_ne (pt := 18) dX8_seer_13 (by decide) rfl (fun c => ?_) (fun c => ?_)
    · have h := zif h c
      refine z_aload_n (i := 0) dX8_seer_18 rfl rfl rfl ?_
      refine z_getR (q := 170) f_X8_25 i_164 rfl (r_164_5 (zRok_of hRs1 hR)) (by decide) dX8_seer_19 rfl ?_
      refine z_aload_n (i := 0) dX8_seer_22 rfl rfl rfl ?_
      refine z_getI (x := s1.1 164 18) rfl f_X8_180 i_164 rfl dX8_seer_23 rfl ?_
      refine z_iload_n (i := 1) dX8_seer_26 rfl rfl rfl ?_
      refine z_bipush (v := (64 : Int32)) dX8_seer_27 (by decide) rfl ?_
      refine z_idiv dX8_seer_29 (by decide) rfl ?_
      obtain ⟨a3, h⟩ := h
      have wa3 := vin a3
      refine z_iast a_170 a3 dX8_seer_30 rfl ?_
      show zt l g (d + 1) M_X8_seer 31 [.ref 164, .int p0] [] (zI s1 170 ((s1.1 164 18).toNatClampNeg) (p0 / (64 : Int32))) _
      refine z_aload_n (i := 0) dX8_seer_31 rfl rfl rfl ?_
      refine z_getR (q := 171) f_X8_28 i_164 rfl (r_164_6 (zRok_of hRs1 hR)) (by decide) dX8_seer_32 rfl ?_
      refine z_aload_n (i := 0) dX8_seer_35 rfl rfl rfl ?_
      refine z_getI (x := s1.1 164 18) (zI_o (by decide)) f_X8_180 i_164 rfl dX8_seer_36 rfl ?_
      refine z_iload_n (i := 1) dX8_seer_39 rfl rfl rfl ?_
      refine z_bipush (v := (64 : Int32)) dX8_seer_40 (by decide) rfl ?_
      refine z_irem dX8_seer_42 (by decide) rfl ?_
      obtain ⟨a4, h⟩ := h
      have wa4 := vin a4
      refine z_iast a_171 a4 dX8_seer_43 rfl ?_
      show zt l g (d + 1) M_X8_seer 44 [.ref 164, .int p0] [] (zI (zI s1 170 ((s1.1 164 18).toNatClampNeg) (p0 / (64 : Int32))) 171 ((s1.1 164 18).toNatClampNeg) (p0 % (64 : Int32))) _
      refine z_aload_n (i := 0) dX8_seer_44 rfl rfl rfl ?_
      refine z_dup dX8_seer_45 rfl rfl ?_
      refine z_getI (x := s1.1 164 18) ((zI_o (by decide)).trans (zI_o (by decide))) f_X8_180 i_164 rfl dX8_seer_46 rfl ?_
      refine z_iconst (v := (1 : Int32)) dX8_seer_49 (by decide) rfl ?_
      refine z_iadd dX8_seer_50 rfl ?_
      refine z_putI f_X8_180 i_164 rfl (Or.inl rfl) rfl rfl dX8_seer_51 rfl ?_
      refine z_aload_n (i := 0) dX8_seer_54 rfl rfl rfl ?_
      refine z_getI (x := (s1.1 164 18) + (1 : Int32)) zI_eq f_X8_180 i_164 rfl dX8_seer_55 rfl ?_
      refine z_iconst (v := (1 : Int32)) dX8_seer_58 (by decide) rfl ?_
      refine z_isub dX8_seer_59 rfl ?_
      exact z_ret (some (.int (((s1.1 164 18) + (1 : Int32)) - (1 : Int32)))) (Or.inr (Or.inl ⟨_, _, rfl, rfl, rfl, dX8_seer_60⟩)) zN200 ⟨_, rfl, h⟩
    · have h := zit h c
      refine z_iconst (v := (-1 : Int32)) dX8_seer_16 (by decide) rfl ?_
      exact z_ret (some (.int (-1 : Int32))) (Or.inr (Or.inl ⟨_, _, rfl, rfl, rfl, dX8_seer_17⟩)) zN200 ⟨_, rfl, h⟩
theorem dX8_adds_0 : decode cX8_adds 0 = .ok (.aload_n 0, 1) := by decide +kernel
theorem dX8_adds_1 : decode cX8_adds 1 = .ok (.getfield 31, 3) := by decide +kernel
theorem dX8_adds_4 : decode cX8_adds 4 = .ok (.aload_n 0, 1) := by decide +kernel
theorem dX8_adds_5 : decode cX8_adds 5 = .ok (.getfield 183, 3) := by decide +kernel
theorem dX8_adds_8 : decode cX8_adds 8 = .ok (.iload_n 1, 1) := by decide +kernel
theorem dX8_adds_9 : decode cX8_adds 9 = .ok (.iastore, 1) := by decide +kernel
theorem dX8_adds_10 : decode cX8_adds 10 = .ok (.aload_n 0, 1) := by decide +kernel
theorem dX8_adds_11 : decode cX8_adds 11 = .ok (.getfield 34, 3) := by decide +kernel
theorem dX8_adds_14 : decode cX8_adds 14 = .ok (.aload_n 0, 1) := by decide +kernel
theorem dX8_adds_15 : decode cX8_adds 15 = .ok (.getfield 183, 3) := by decide +kernel
theorem dX8_adds_18 : decode cX8_adds 18 = .ok (.iload_n 2, 1) := by decide +kernel
theorem dX8_adds_19 : decode cX8_adds 19 = .ok (.sipush 1000, 3) := by decide +kernel
theorem dX8_adds_22 : decode cX8_adds 22 = .ok (.idiv, 1) := by decide +kernel
theorem dX8_adds_23 : decode cX8_adds 23 = .ok (.iastore, 1) := by decide +kernel
theorem dX8_adds_24 : decode cX8_adds 24 = .ok (.aload_n 0, 1) := by decide +kernel
theorem dX8_adds_25 : decode cX8_adds 25 = .ok (.getfield 37, 3) := by decide +kernel
theorem dX8_adds_28 : decode cX8_adds 28 = .ok (.aload_n 0, 1) := by decide +kernel
theorem dX8_adds_29 : decode cX8_adds 29 = .ok (.getfield 183, 3) := by decide +kernel
theorem dX8_adds_32 : decode cX8_adds 32 = .ok (.iload_n 2, 1) := by decide +kernel
theorem dX8_adds_33 : decode cX8_adds 33 = .ok (.sipush 1000, 3) := by decide +kernel
theorem dX8_adds_36 : decode cX8_adds 36 = .ok (.irem, 1) := by decide +kernel
theorem dX8_adds_37 : decode cX8_adds 37 = .ok (.iastore, 1) := by decide +kernel
theorem dX8_adds_38 : decode cX8_adds 38 = .ok (.aload_n 0, 1) := by decide +kernel
theorem dX8_adds_39 : decode cX8_adds 39 = .ok (.getfield 40, 3) := by decide +kernel
theorem dX8_adds_42 : decode cX8_adds 42 = .ok (.aload_n 0, 1) := by decide +kernel
theorem dX8_adds_43 : decode cX8_adds 43 = .ok (.getfield 183, 3) := by decide +kernel
theorem dX8_adds_46 : decode cX8_adds 46 = .ok (.iload_n 3, 1) := by decide +kernel
theorem dX8_adds_47 : decode cX8_adds 47 = .ok (.bipush 64, 2) := by decide +kernel
theorem dX8_adds_49 : decode cX8_adds 49 = .ok (.idiv, 1) := by decide +kernel
theorem dX8_adds_50 : decode cX8_adds 50 = .ok (.iastore, 1) := by decide +kernel
theorem dX8_adds_51 : decode cX8_adds 51 = .ok (.aload_n 0, 1) := by decide +kernel
theorem dX8_adds_52 : decode cX8_adds 52 = .ok (.getfield 43, 3) := by decide +kernel
theorem dX8_adds_55 : decode cX8_adds 55 = .ok (.aload_n 0, 1) := by decide +kernel
theorem dX8_adds_56 : decode cX8_adds 56 = .ok (.getfield 183, 3) := by decide +kernel
theorem dX8_adds_59 : decode cX8_adds 59 = .ok (.iload_n 3, 1) := by decide +kernel
theorem dX8_adds_60 : decode cX8_adds 60 = .ok (.bipush 64, 2) := by decide +kernel
theorem dX8_adds_62 : decode cX8_adds 62 = .ok (.irem, 1) := by decide +kernel
theorem dX8_adds_63 : decode cX8_adds 63 = .ok (.iastore, 1) := by decide +kernel
theorem dX8_adds_64 : decode cX8_adds 64 = .ok (.aload_n 0, 1) := by decide +kernel
theorem dX8_adds_65 : decode cX8_adds 65 = .ok (.getfield 46, 3) := by decide +kernel
theorem dX8_adds_68 : decode cX8_adds 68 = .ok (.aload_n 0, 1) := by decide +kernel
theorem dX8_adds_69 : decode cX8_adds 69 = .ok (.getfield 183, 3) := by decide +kernel
theorem dX8_adds_72 : decode cX8_adds 72 = .ok (.iload 4, 2) := by decide +kernel
theorem dX8_adds_74 : decode cX8_adds 74 = .ok (.iastore, 1) := by decide +kernel
theorem dX8_adds_75 : decode cX8_adds 75 = .ok (.aload_n 0, 1) := by decide +kernel
theorem dX8_adds_76 : decode cX8_adds 76 = .ok (.dup, 1) := by decide +kernel
theorem dX8_adds_77 : decode cX8_adds 77 = .ok (.getfield 183, 3) := by decide +kernel
theorem dX8_adds_80 : decode cX8_adds 80 = .ok (.iconst 1, 1) := by decide +kernel
theorem dX8_adds_81 : decode cX8_adds 81 = .ok (.iadd, 1) := by decide +kernel
theorem dX8_adds_82 : decode cX8_adds 82 = .ok (.putfield 183, 3) := by decide +kernel
theorem dX8_adds_85 : decode cX8_adds 85 = .ok (.aload_n 0, 1) := by decide +kernel
theorem dX8_adds_86 : decode cX8_adds 86 = .ok (.getfield 183, 3) := by decide +kernel
theorem dX8_adds_89 : decode cX8_adds 89 = .ok (.iconst 1, 1) := by decide +kernel
theorem dX8_adds_90 : decode cX8_adds 90 = .ok (.isub, 1) := by decide +kernel
theorem dX8_adds_91 : decode cX8_adds 91 = .ok (.ireturn, 1) := by decide +kernel
set_option maxHeartbeats 4000000 in
set_option maxRecDepth 100000 in
theorem t_X8_adds {l : Launch} {g : zG} {d : Nat} {s : zS} (hR : zRok s) {p0 : Int32} {p1 : Int32} {p2 : Int32} {p3 : Int32} {K : Int32 → zS → Prop} (h : (vp_in (s.1 164 19) 12 ∧ (vp_in (s.1 164 19) 12 ∧ (vp_in (s.1 164 19) 12 ∧ (vp_in (s.1 164 19) 12 ∧ (vp_in (s.1 164 19) 12 ∧ (vp_in (s.1 164 19) 12 ∧ K (((s.1 164 19) + (1 : Int32)) - (1 : Int32)) (zI (zI (zI (zI (zI (zI (zI s 172 ((s.1 164 19).toNatClampNeg) p0) 173 ((s.1 164 19).toNatClampNeg) (p1 / (1000 : Int32))) 174 ((s.1 164 19).toNatClampNeg) (p1 % (1000 : Int32))) 175 ((s.1 164 19).toNatClampNeg) (p2 / (64 : Int32))) 176 ((s.1 164 19).toNatClampNeg) (p2 % (64 : Int32))) 177 ((s.1 164 19).toNatClampNeg) p3) 164 19 ((s.1 164 19) + (1 : Int32)))))))))) : zc l g d M_X8_adds [.ref 164, .int p0, .int p1, .int p2, .int p3] s (zKi K) := by
  refine zCall_of k_X8_adds (Nat.le_of_ble_eq_true rfl) (Nat.le_refl _) (fun _ => ?_)
  show zt l g d M_X8_adds 0 [.ref 164, .int p0, .int p1, .int p2, .int p3] [] s (zKi K)
  refine z_aload_n (i := 0) dX8_adds_0 rfl rfl rfl ?_
  refine z_getR (q := 172) f_X8_31 i_164 rfl (r_164_7 hR) (by decide) dX8_adds_1 rfl ?_
  refine z_aload_n (i := 0) dX8_adds_4 rfl rfl rfl ?_
  refine z_getI (x := s.1 164 19) rfl f_X8_183 i_164 rfl dX8_adds_5 rfl ?_
  refine z_iload_n (i := 1) dX8_adds_8 rfl rfl rfl ?_
  obtain ⟨a1, h⟩ := h
  have wa1 := vin a1
  refine z_iast a_172 a1 dX8_adds_9 rfl ?_
  show zt l g d M_X8_adds 10 [.ref 164, .int p0, .int p1, .int p2, .int p3] [] (zI s 172 ((s.1 164 19).toNatClampNeg) p0) _
  refine z_aload_n (i := 0) dX8_adds_10 rfl rfl rfl ?_
  refine z_getR (q := 173) f_X8_34 i_164 rfl (r_164_8 hR) (by decide) dX8_adds_11 rfl ?_
  refine z_aload_n (i := 0) dX8_adds_14 rfl rfl rfl ?_
  refine z_getI (x := s.1 164 19) (zI_o (by decide)) f_X8_183 i_164 rfl dX8_adds_15 rfl ?_
  refine z_iload_n (i := 2) dX8_adds_18 rfl rfl rfl ?_
  refine z_sipush (v := (1000 : Int32)) dX8_adds_19 (by decide) rfl ?_
  refine z_idiv dX8_adds_22 (by decide) rfl ?_
  obtain ⟨a2, h⟩ := h
  have wa2 := vin a2
  refine z_iast a_173 a2 dX8_adds_23 rfl ?_
  show zt l g d M_X8_adds 24 [.ref 164, .int p0, .int p1, .int p2, .int p3] [] (zI (zI s 172 ((s.1 164 19).toNatClampNeg) p0) 173 ((s.1 164 19).toNatClampNeg) (p1 / (1000 : Int32))) _
  refine z_aload_n (i := 0) dX8_adds_24 rfl rfl rfl ?_
  refine z_getR (q := 174) f_X8_37 i_164 rfl (r_164_9 hR) (by decide) dX8_adds_25 rfl ?_
  refine z_aload_n (i := 0) dX8_adds_28 rfl rfl rfl ?_
  refine z_getI (x := s.1 164 19) ((zI_o (by decide)).trans (zI_o (by decide))) f_X8_183 i_164 rfl dX8_adds_29 rfl ?_
  refine z_iload_n (i := 2) dX8_adds_32 rfl rfl rfl ?_
  refine z_sipush (v := (1000 : Int32)) dX8_adds_33 (by decide) rfl ?_
  refine z_irem dX8_adds_36 (by decide) rfl ?_
  obtain ⟨a3, h⟩ := h
  have wa3 := vin a3
  refine z_iast a_174 a3 dX8_adds_37 rfl ?_
  show zt l g d M_X8_adds 38 [.ref 164, .int p0, .int p1, .int p2, .int p3] [] (zI (zI (zI s 172 ((s.1 164 19).toNatClampNeg) p0) 173 ((s.1 164 19).toNatClampNeg) (p1 / (1000 : Int32))) 174 ((s.1 164 19).toNatClampNeg) (p1 % (1000 : Int32))) _
  refine z_aload_n (i := 0) dX8_adds_38 rfl rfl rfl ?_
  refine z_getR (q := 175) f_X8_40 i_164 rfl (r_164_10 hR) (by decide) dX8_adds_39 rfl ?_
  refine z_aload_n (i := 0) dX8_adds_42 rfl rfl rfl ?_
  refine z_getI (x := s.1 164 19) ((zI_o (by decide)).trans ((zI_o (by decide)).trans (zI_o (by decide)))) f_X8_183 i_164 rfl dX8_adds_43 rfl ?_
  refine z_iload_n (i := 3) dX8_adds_46 rfl rfl rfl ?_
  refine z_bipush (v := (64 : Int32)) dX8_adds_47 (by decide) rfl ?_
  refine z_idiv dX8_adds_49 (by decide) rfl ?_
  obtain ⟨a4, h⟩ := h
  have wa4 := vin a4
  refine z_iast a_175 a4 dX8_adds_50 rfl ?_
  show zt l g d M_X8_adds 51 [.ref 164, .int p0, .int p1, .int p2, .int p3] [] (zI (zI (zI (zI s 172 ((s.1 164 19).toNatClampNeg) p0) 173 ((s.1 164 19).toNatClampNeg) (p1 / (1000 : Int32))) 174 ((s.1 164 19).toNatClampNeg) (p1 % (1000 : Int32))) 175 ((s.1 164 19).toNatClampNeg) (p2 / (64 : Int32))) _
  refine z_aload_n (i := 0) dX8_adds_51 rfl rfl rfl ?_
  refine z_getR (q := 176) f_X8_43 i_164 rfl (r_164_11 hR) (by decide) dX8_adds_52 rfl ?_
  refine z_aload_n (i := 0) dX8_adds_55 rfl rfl rfl ?_
  refine z_getI (x := s.1 164 19) ((zI_o (by decide)).trans ((zI_o (by decide)).trans ((zI_o (by decide)).trans (zI_o (by decide))))) f_X8_183 i_164 rfl dX8_adds_56 rfl ?_
  refine z_iload_n (i := 3) dX8_adds_59 rfl rfl rfl ?_
  refine z_bipush (v := (64 : Int32)) dX8_adds_60 (by decide) rfl ?_
  refine z_irem dX8_adds_62 (by decide) rfl ?_
  obtain ⟨a5, h⟩ := h
  have wa5 := vin a5
  refine z_iast a_176 a5 dX8_adds_63 rfl ?_
  show zt l g d M_X8_adds 64 [.ref 164, .int p0, .int p1, .int p2, .int p3] [] (zI (zI (zI (zI (zI s 172 ((s.1 164 19).toNatClampNeg) p0) 173 ((s.1 164 19).toNatClampNeg) (p1 / (1000 : Int32))) 174 ((s.1 164 19).toNatClampNeg) (p1 % (1000 : Int32))) 175 ((s.1 164 19).toNatClampNeg) (p2 / (64 : Int32))) 176 ((s.1 164 19).toNatClampNeg) (p2 % (64 : Int32))) _
  refine z_aload_n (i := 0) dX8_adds_64 rfl rfl rfl ?_
  refine z_getR (q := 177) f_X8_46 i_164 rfl (r_164_12 hR) (by decide) dX8_adds_65 rfl ?_
  refine z_aload_n (i := 0) dX8_adds_68 rfl rfl rfl ?_
  refine z_getI (x := s.1 164 19) ((zI_o (by decide)).trans ((zI_o (by decide)).trans ((zI_o (by decide)).trans ((zI_o (by decide)).trans (zI_o (by decide)))))) f_X8_183 i_164 rfl dX8_adds_69 rfl ?_
  refine z_iload dX8_adds_72 rfl rfl ?_
  obtain ⟨a6, h⟩ := h
  have wa6 := vin a6
  refine z_iast a_177 a6 dX8_adds_74 rfl ?_
  show zt l g d M_X8_adds 75 [.ref 164, .int p0, .int p1, .int p2, .int p3] [] (zI (zI (zI (zI (zI (zI s 172 ((s.1 164 19).toNatClampNeg) p0) 173 ((s.1 164 19).toNatClampNeg) (p1 / (1000 : Int32))) 174 ((s.1 164 19).toNatClampNeg) (p1 % (1000 : Int32))) 175 ((s.1 164 19).toNatClampNeg) (p2 / (64 : Int32))) 176 ((s.1 164 19).toNatClampNeg) (p2 % (64 : Int32))) 177 ((s.1 164 19).toNatClampNeg) p3) _
  refine z_aload_n (i := 0) dX8_adds_75 rfl rfl rfl ?_
  refine z_dup dX8_adds_76 rfl rfl ?_
  refine z_getI (x := s.1 164 19) ((zI_o (by decide)).trans ((zI_o (by decide)).trans ((zI_o (by decide)).trans ((zI_o (by decide)).trans ((zI_o (by decide)).trans (zI_o (by decide))))))) f_X8_183 i_164 rfl dX8_adds_77 rfl ?_
  refine z_iconst (v := (1 : Int32)) dX8_adds_80 (by decide) rfl ?_
  refine z_iadd dX8_adds_81 rfl ?_
  refine z_putI f_X8_183 i_164 rfl (Or.inl rfl) rfl rfl dX8_adds_82 rfl ?_
  refine z_aload_n (i := 0) dX8_adds_85 rfl rfl rfl ?_
  refine z_getI (x := (s.1 164 19) + (1 : Int32)) zI_eq f_X8_183 i_164 rfl dX8_adds_86 rfl ?_
  refine z_iconst (v := (1 : Int32)) dX8_adds_89 (by decide) rfl ?_
  refine z_isub dX8_adds_90 rfl ?_
  exact z_ret (some (.int (((s.1 164 19) + (1 : Int32)) - (1 : Int32)))) (Or.inr (Or.inl ⟨_, _, rfl, rfl, rfl, dX8_adds_91⟩)) zN200 ⟨_, rfl, h⟩
theorem dX8_star_0 : decode cX8_star 0 = .ok (.iload_n 1, 1) := by decide +kernel
theorem dX8_star_1 : decode cX8_star 1 = .ok (.i2l, 1) := by decide +kernel
theorem dX8_star_2 : decode cX8_star 2 = .ok (.lconst 0, 1) := by decide +kernel
theorem dX8_star_3 : decode cX8_star 3 = .ok (.ldc2_w 186, 3) := by decide +kernel
theorem dX8_star_6 : decode cX8_star 6 = .ok (.invokestatic 147, 3) := by decide +kernel
theorem dX8_star_9 : decode cX8_star 9 = .ok (.ifCond .eq 38, 3) := by decide +kernel
theorem dX8_star_12 : decode cX8_star 12 = .ok (.iload_n 2, 1) := by decide +kernel
theorem dX8_star_13 : decode cX8_star 13 = .ok (.i2l, 1) := by decide +kernel
theorem dX8_star_14 : decode cX8_star 14 = .ok (.lconst 0, 1) := by decide +kernel
theorem dX8_star_15 : decode cX8_star 15 = .ok (.ldc2_w 188, 3) := by decide +kernel
theorem dX8_star_18 : decode cX8_star 18 = .ok (.invokestatic 147, 3) := by decide +kernel
theorem dX8_star_21 : decode cX8_star 21 = .ok (.ifCond .eq 26, 3) := by decide +kernel
theorem dX8_star_24 : decode cX8_star 24 = .ok (.iload_n 3, 1) := by decide +kernel
theorem dX8_star_25 : decode cX8_star 25 = .ok (.i2l, 1) := by decide +kernel
theorem dX8_star_26 : decode cX8_star 26 = .ok (.ldc2_w 190, 3) := by decide +kernel
theorem dX8_star_29 : decode cX8_star 29 = .ok (.ldc2_w 192, 3) := by decide +kernel
theorem dX8_star_32 : decode cX8_star 32 = .ok (.invokestatic 147, 3) := by decide +kernel
theorem dX8_star_35 : decode cX8_star 35 = .ok (.ifCond .eq 12, 3) := by decide +kernel
theorem dX8_star_38 : decode cX8_star 38 = .ok (.aload_n 0, 1) := by decide +kernel
theorem dX8_star_39 : decode cX8_star 39 = .ok (.getfield 183, 3) := by decide +kernel
theorem dX8_star_42 : decode cX8_star 42 = .ok (.bipush 12, 2) := by decide +kernel
theorem dX8_star_44 : decode cX8_star 44 = .ok (.if_icmp .ne 5, 3) := by decide +kernel
theorem dX8_star_47 : decode cX8_star 47 = .ok (.iconst (-1), 1) := by decide +kernel
theorem dX8_star_48 : decode cX8_star 48 = .ok (.ireturn, 1) := by decide +kernel
theorem dX8_star_49 : decode cX8_star 49 = .ok (.aload_n 0, 1) := by decide +kernel
theorem dX8_star_50 : decode cX8_star 50 = .ok (.getfield 49, 3) := by decide +kernel
theorem dX8_star_53 : decode cX8_star 53 = .ok (.aload_n 0, 1) := by decide +kernel
theorem dX8_star_54 : decode cX8_star 54 = .ok (.getfield 183, 3) := by decide +kernel
theorem dX8_star_57 : decode cX8_star 57 = .ok (.iload_n 1, 1) := by decide +kernel
theorem dX8_star_58 : decode cX8_star 58 = .ok (.iastore, 1) := by decide +kernel
theorem dX8_star_59 : decode cX8_star 59 = .ok (.aload_n 0, 1) := by decide +kernel
theorem dX8_star_60 : decode cX8_star 60 = .ok (.getfield 52, 3) := by decide +kernel
theorem dX8_star_63 : decode cX8_star 63 = .ok (.aload_n 0, 1) := by decide +kernel
theorem dX8_star_64 : decode cX8_star 64 = .ok (.getfield 183, 3) := by decide +kernel
theorem dX8_star_67 : decode cX8_star 67 = .ok (.iload_n 3, 1) := by decide +kernel
theorem dX8_star_68 : decode cX8_star 68 = .ok (.iastore, 1) := by decide +kernel
theorem dX8_star_69 : decode cX8_star 69 = .ok (.aload_n 0, 1) := by decide +kernel
theorem dX8_star_70 : decode cX8_star 70 = .ok (.iconst 0, 1) := by decide +kernel
theorem dX8_star_71 : decode cX8_star 71 = .ok (.iconst 0, 1) := by decide +kernel
theorem dX8_star_72 : decode cX8_star 72 = .ok (.iconst 0, 1) := by decide +kernel
theorem dX8_star_73 : decode cX8_star 73 = .ok (.iload_n 2, 1) := by decide +kernel
theorem dX8_star_74 : decode cX8_star 74 = .ok (.invokevirtual 194, 3) := by decide +kernel
theorem dX8_star_77 : decode cX8_star 77 = .ok (.ireturn, 1) := by decide +kernel
set_option maxHeartbeats 4000000 in
set_option maxRecDepth 100000 in
theorem t_X8_star {l : Launch} {g : zG} {d : Nat} {s : zS} (hR : zRok s) {p0 : Int32} {p1 : Int32} {p2 : Int32} {K : Int32 → zS → Prop} (h : (if (zinr p0.toInt64 (0 : Int64) (255 : Int64)) = true then (if (zinr p1.toInt64 (0 : Int64) (999 : Int64)) = true then (if (zinr p2.toInt64 (-9 : Int64) (9 : Int64)) = true then (if (s.1 164 19) = (12 : Int32) then K (-1 : Int32) s else (vp_in (s.1 164 19) 12 ∧ (vp_in (s.1 164 19) 12 ∧ (zc l g d M_X8_adds [.ref 164, .int (0 : Int32), .int (0 : Int32), .int (0 : Int32), .int p1] (zI (zI s 178 ((s.1 164 19).toNatClampNeg) p0) 179 ((s.1 164 19).toNatClampNeg) p2) (zKi (fun r4 s3 => s3.2.2.1 = s.2.2.1 ∧ K r4 s3)))))) else K (-1 : Int32) s) else K (-1 : Int32) s) else K (-1 : Int32) s)) : zc l g (d + 1) M_X8_star [.ref 164, .int p0, .int p1, .int p2] s (zKi K) := by
  refine zCall_of k_X8_star (Nat.le_of_ble_eq_true rfl) (Nat.le_refl _) (fun _ => ?_)
  show zt l g (d + 1) M_X8_star 0 [.ref 164, .int p0, .int p1, .int p2] [] s (zKi K)
  refine z_iload_n (i := 1) dX8_star_0 rfl rfl rfl ?_
  refine z_i2l dX8_star_1 rfl ?_
  refine z_lconst (v := (0 : Int64)) dX8_star_2 (by decide) rfl ?_
  refine z_ldc2 (v := (255 : Int64)) q_X8_186 dX8_star_3 rfl ?_
  refine z_in m_X8_147 dX8_star_6 (Nat.le_of_ble_eq_true rfl) rfl ?_
  refine z_ifb_eq (pt := 47) dX8_star_9 (by decide) rfl (fun c => ?_) (fun c => ?_)
  · have h := zif h (by rw [c]; exact Bool.false_ne_true)
    refine z_iconst (v := (-1 : Int32)) dX8_star_47 (by decide) rfl ?_
    exact z_ret (some (.int (-1 : Int32))) (Or.inr (Or.inl ⟨_, _, rfl, rfl, rfl, dX8_star_48⟩)) zN200 ⟨_, rfl, h⟩
  · have h := zit h c
    refine z_iload_n (i := 2) dX8_star_12 rfl rfl rfl ?_
    refine z_i2l dX8_star_13 rfl ?_
    refine z_lconst (v := (0 : Int64)) dX8_star_14 (by decide) rfl ?_
    refine z_ldc2 (v := (999 : Int64)) q_X8_188 dX8_star_15 rfl ?_
    refine z_in m_X8_147 dX8_star_18 (Nat.le_of_ble_eq_true rfl) rfl ?_
    refine z_ifb_eq (pt := 47) dX8_star_21 (by decide) rfl (fun c => ?_) (fun c => ?_)
    · have h := zif h (by rw [c]; exact Bool.false_ne_true)
      refine z_iconst (v := (-1 : Int32)) dX8_star_47 (by decide) rfl ?_
      exact z_ret (some (.int (-1 : Int32))) (Or.inr (Or.inl ⟨_, _, rfl, rfl, rfl, dX8_star_48⟩)) zN200 ⟨_, rfl, h⟩
    · have h := zit h c
      refine z_iload_n (i := 3) dX8_star_24 rfl rfl rfl ?_
      refine z_i2l dX8_star_25 rfl ?_
      refine z_ldc2 (v := (-9 : Int64)) q_X8_190 dX8_star_26 rfl ?_
      refine z_ldc2 (v := (9 : Int64)) q_X8_192 dX8_star_29 rfl ?_
      refine z_in m_X8_147 dX8_star_32 (Nat.le_of_ble_eq_true rfl) rfl ?_
      refine z_ifb_eq (pt := 47) dX8_star_35 (by decide) rfl (fun c => ?_) (fun c => ?_)
      · have h := zif h (by rw [c]; exact Bool.false_ne_true)
        refine z_iconst (v := (-1 : Int32)) dX8_star_47 (by decide) rfl ?_
        exact z_ret (some (.int (-1 : Int32))) (Or.inr (Or.inl ⟨_, _, rfl, rfl, rfl, dX8_star_48⟩)) zN200 ⟨_, rfl, h⟩
      · have h := zit h c
        refine z_aload_n (i := 0) dX8_star_38 rfl rfl rfl ?_
        refine z_getI (x := s.1 164 19) rfl f_X8_183 i_164 rfl dX8_star_39 rfl ?_
        refine z_bipush (v := (12 : Int32)) dX8_star_42 (by decide) rfl ?_
        refine z_icmp_ne (pt := 49) dX8_star_44 (by decide) rfl (fun c => ?_) (fun c => ?_)
        · have h := zif h c
          refine z_aload_n (i := 0) dX8_star_49 rfl rfl rfl ?_
          refine z_getR (q := 178) f_X8_49 i_164 rfl (r_164_13 hR) (by decide) dX8_star_50 rfl ?_
          refine z_aload_n (i := 0) dX8_star_53 rfl rfl rfl ?_
          refine z_getI (x := s.1 164 19) rfl f_X8_183 i_164 rfl dX8_star_54 rfl ?_
          refine z_iload_n (i := 1) dX8_star_57 rfl rfl rfl ?_
          obtain ⟨a1, h⟩ := h
          have wa1 := vin a1
          refine z_iast a_178 a1 dX8_star_58 rfl ?_
          show zt l g (d + 1) M_X8_star 59 [.ref 164, .int p0, .int p1, .int p2] [] (zI s 178 ((s.1 164 19).toNatClampNeg) p0) _
          refine z_aload_n (i := 0) dX8_star_59 rfl rfl rfl ?_
          refine z_getR (q := 179) f_X8_52 i_164 rfl (r_164_14 hR) (by decide) dX8_star_60 rfl ?_
          refine z_aload_n (i := 0) dX8_star_63 rfl rfl rfl ?_
          refine z_getI (x := s.1 164 19) (zI_o (by decide)) f_X8_183 i_164 rfl dX8_star_64 rfl ?_
          refine z_iload_n (i := 3) dX8_star_67 rfl rfl rfl ?_
          obtain ⟨a2, h⟩ := h
          have wa2 := vin a2
          refine z_iast a_179 a2 dX8_star_68 rfl ?_
          show zt l g (d + 1) M_X8_star 69 [.ref 164, .int p0, .int p1, .int p2] [] (zI (zI s 178 ((s.1 164 19).toNatClampNeg) p0) 179 ((s.1 164 19).toNatClampNeg) p2) _
          refine z_aload_n (i := 0) dX8_star_69 rfl rfl rfl ?_
          refine z_iconst (v := (0 : Int32)) dX8_star_70 (by decide) rfl ?_
          refine z_iconst (v := (0 : Int32)) dX8_star_71 (by decide) rfl ?_
          refine z_iconst (v := (0 : Int32)) dX8_star_72 (by decide) rfl ?_
          refine z_iload_n (i := 2) dX8_star_73 rfl rfl rfl ?_
          refine z_callV k_X8_adds m_X8_194 (zRec_of i_164) rfl h rfl (Nat.le_of_ble_eq_true rfl) dX8_star_74 zy200 rfl ?_
          rintro v s3 ⟨r4, rfl, hRs3, h⟩
          show zt l g (d + 1) M_X8_star 77 [.ref 164, .int p0, .int p1, .int p2] [.int r4] s3 _
          exact z_ret (some (.int r4)) (Or.inr (Or.inl ⟨_, _, rfl, rfl, rfl, dX8_star_77⟩)) zN200 ⟨_, rfl, h⟩
        · have h := zit h c
          refine z_iconst (v := (-1 : Int32)) dX8_star_47 (by decide) rfl ?_
          exact z_ret (some (.int (-1 : Int32))) (Or.inr (Or.inl ⟨_, _, rfl, rfl, rfl, dX8_star_48⟩)) zN200 ⟨_, rfl, h⟩
theorem dX8_flies_0 : decode cX8_flies 0 = .ok (.iload_n 1, 1) := by decide +kernel
theorem dX8_flies_1 : decode cX8_flies 1 = .ok (.iconst 1, 1) := by decide +kernel
theorem dX8_flies_2 : decode cX8_flies 2 = .ok (.if_icmp .eq 13, 3) := by decide +kernel
theorem dX8_flies_5 : decode cX8_flies 5 = .ok (.iload_n 1, 1) := by decide +kernel
theorem dX8_flies_6 : decode cX8_flies 6 = .ok (.iconst 4, 1) := by decide +kernel
theorem dX8_flies_7 : decode cX8_flies 7 = .ok (.if_icmp .eq 8, 3) := by decide +kernel
theorem dX8_flies_10 : decode cX8_flies 10 = .ok (.iload_n 1, 1) := by decide +kernel
theorem dX8_flies_11 : decode cX8_flies 11 = .ok (.iconst 5, 1) := by decide +kernel
theorem dX8_flies_12 : decode cX8_flies 12 = .ok (.if_icmp .ne 76, 3) := by decide +kernel
theorem dX8_flies_15 : decode cX8_flies 15 = .ok (.iload_n 2, 1) := by decide +kernel
theorem dX8_flies_16 : decode cX8_flies 16 = .ok (.invokestatic 198, 3) := by decide +kernel
theorem dX8_flies_19 : decode cX8_flies 19 = .ok (.ifCond .eq 69, 3) := by decide +kernel
theorem dX8_flies_22 : decode cX8_flies 22 = .ok (.iload_n 3, 1) := by decide +kernel
theorem dX8_flies_23 : decode cX8_flies 23 = .ok (.invokestatic 157, 3) := by decide +kernel
theorem dX8_flies_26 : decode cX8_flies 26 = .ok (.ifCond .eq 62, 3) := by decide +kernel
theorem dX8_flies_29 : decode cX8_flies 29 = .ok (.iload 4, 2) := by decide +kernel
theorem dX8_flies_31 : decode cX8_flies 31 = .ok (.i2l, 1) := by decide +kernel
theorem dX8_flies_32 : decode cX8_flies 32 = .ok (.lconst 0, 1) := by decide +kernel
theorem dX8_flies_33 : decode cX8_flies 33 = .ok (.ldc2_w 186, 3) := by decide +kernel
theorem dX8_flies_36 : decode cX8_flies 36 = .ok (.invokestatic 147, 3) := by decide +kernel
theorem dX8_flies_39 : decode cX8_flies 39 = .ok (.ifCond .eq 49, 3) := by decide +kernel
theorem dX8_flies_42 : decode cX8_flies 42 = .ok (.iload 5, 2) := by decide +kernel
theorem dX8_flies_44 : decode cX8_flies 44 = .ok (.ifCond .lt 44, 3) := by decide +kernel
theorem dX8_flies_47 : decode cX8_flies 47 = .ok (.iload 5, 2) := by decide +kernel
theorem dX8_flies_49 : decode cX8_flies 49 = .ok (.bipush 100, 2) := by decide +kernel
theorem dX8_flies_51 : decode cX8_flies 51 = .ok (.idiv, 1) := by decide +kernel
theorem dX8_flies_52 : decode cX8_flies 52 = .ok (.i2l, 1) := by decide +kernel
theorem dX8_flies_53 : decode cX8_flies 53 = .ok (.lconst 0, 1) := by decide +kernel
theorem dX8_flies_54 : decode cX8_flies 54 = .ok (.ldc2_w 201, 3) := by decide +kernel
theorem dX8_flies_57 : decode cX8_flies 57 = .ok (.invokestatic 147, 3) := by decide +kernel
theorem dX8_flies_60 : decode cX8_flies 60 = .ok (.ifCond .eq 28, 3) := by decide +kernel
theorem dX8_flies_63 : decode cX8_flies 63 = .ok (.iload 5, 2) := by decide +kernel
theorem dX8_flies_65 : decode cX8_flies 65 = .ok (.bipush 100, 2) := by decide +kernel
theorem dX8_flies_67 : decode cX8_flies 67 = .ok (.irem, 1) := by decide +kernel
theorem dX8_flies_68 : decode cX8_flies 68 = .ok (.i2l, 1) := by decide +kernel
theorem dX8_flies_69 : decode cX8_flies 69 = .ok (.lconst 0, 1) := by decide +kernel
theorem dX8_flies_70 : decode cX8_flies 70 = .ok (.ldc2_w 201, 3) := by decide +kernel
theorem dX8_flies_73 : decode cX8_flies 73 = .ok (.invokestatic 147, 3) := by decide +kernel
theorem dX8_flies_76 : decode cX8_flies 76 = .ok (.ifCond .eq 12, 3) := by decide +kernel
theorem dX8_flies_79 : decode cX8_flies 79 = .ok (.aload_n 0, 1) := by decide +kernel
theorem dX8_flies_80 : decode cX8_flies 80 = .ok (.getfield 183, 3) := by decide +kernel
theorem dX8_flies_83 : decode cX8_flies 83 = .ok (.bipush 12, 2) := by decide +kernel
theorem dX8_flies_85 : decode cX8_flies 85 = .ok (.if_icmp .ne 5, 3) := by decide +kernel
theorem dX8_flies_88 : decode cX8_flies 88 = .ok (.iconst (-1), 1) := by decide +kernel
theorem dX8_flies_89 : decode cX8_flies 89 = .ok (.ireturn, 1) := by decide +kernel
theorem dX8_flies_90 : decode cX8_flies 90 = .ok (.aload_n 0, 1) := by decide +kernel
theorem dX8_flies_91 : decode cX8_flies 91 = .ok (.getfield 49, 3) := by decide +kernel
theorem dX8_flies_94 : decode cX8_flies 94 = .ok (.aload_n 0, 1) := by decide +kernel
theorem dX8_flies_95 : decode cX8_flies 95 = .ok (.getfield 183, 3) := by decide +kernel
theorem dX8_flies_98 : decode cX8_flies 98 = .ok (.iload 5, 2) := by decide +kernel
theorem dX8_flies_100 : decode cX8_flies 100 = .ok (.bipush 100, 2) := by decide +kernel
theorem dX8_flies_102 : decode cX8_flies 102 = .ok (.idiv, 1) := by decide +kernel
theorem dX8_flies_103 : decode cX8_flies 103 = .ok (.bipush 20, 2) := by decide +kernel
theorem dX8_flies_105 : decode cX8_flies 105 = .ok (.isub, 1) := by decide +kernel
theorem dX8_flies_106 : decode cX8_flies 106 = .ok (.iastore, 1) := by decide +kernel
theorem dX8_flies_107 : decode cX8_flies 107 = .ok (.aload_n 0, 1) := by decide +kernel
theorem dX8_flies_108 : decode cX8_flies 108 = .ok (.getfield 52, 3) := by decide +kernel
theorem dX8_flies_111 : decode cX8_flies 111 = .ok (.aload_n 0, 1) := by decide +kernel
theorem dX8_flies_112 : decode cX8_flies 112 = .ok (.getfield 183, 3) := by decide +kernel
theorem dX8_flies_115 : decode cX8_flies 115 = .ok (.iload 5, 2) := by decide +kernel
theorem dX8_flies_117 : decode cX8_flies 117 = .ok (.bipush 100, 2) := by decide +kernel
theorem dX8_flies_119 : decode cX8_flies 119 = .ok (.irem, 1) := by decide +kernel
theorem dX8_flies_120 : decode cX8_flies 120 = .ok (.bipush 20, 2) := by decide +kernel
theorem dX8_flies_122 : decode cX8_flies 122 = .ok (.isub, 1) := by decide +kernel
theorem dX8_flies_123 : decode cX8_flies 123 = .ok (.iastore, 1) := by decide +kernel
theorem dX8_flies_124 : decode cX8_flies 124 = .ok (.aload_n 0, 1) := by decide +kernel
theorem dX8_flies_125 : decode cX8_flies 125 = .ok (.iload_n 1, 1) := by decide +kernel
theorem dX8_flies_126 : decode cX8_flies 126 = .ok (.iload_n 2, 1) := by decide +kernel
theorem dX8_flies_127 : decode cX8_flies 127 = .ok (.iload_n 3, 1) := by decide +kernel
theorem dX8_flies_128 : decode cX8_flies 128 = .ok (.iload 4, 2) := by decide +kernel
theorem dX8_flies_130 : decode cX8_flies 130 = .ok (.invokevirtual 194, 3) := by decide +kernel
theorem dX8_flies_133 : decode cX8_flies 133 = .ok (.ireturn, 1) := by decide +kernel
set_option maxHeartbeats 4000000 in
set_option maxRecDepth 100000 in
theorem t_X8_flies {l : Launch} {g : zG} {d : Nat} {s : zS} (hR : zRok s) {p0 : Int32} {p1 : Int32} {p2 : Int32} {p3 : Int32} {p4 : Int32} {K : Int32 → zS → Prop} (h : (if p0 = (1 : Int32) then (zc l g d M_X8_areMinutes [.int p1] s (zKz (fun b2 s1 => s1.2.2.1 = s.2.2.1 ∧ (if b2 = true then (zc l g d M_X8_isPlace [.int p2] s1 (zKz (fun b4 s3 => s3.2.2.1 = s1.2.2.1 ∧ (if b4 = true then (if (zinr p3.toInt64 (0 : Int64) (255 : Int64)) = true then (if p4 < 0 then K (-1 : Int32) s3 else (if (zinr ((p4 / (100 : Int32)).toInt64) (0 : Int64) (40 : Int64)) = true then (if (zinr ((p4 % (100 : Int32)).toInt64) (0 : Int64) (40 : Int64)) = true then (if (s3.1 164 19) = (12 : Int32) then K (-1 : Int32) s3 else (vp_in (s3.1 164 19) 12 ∧ (vp_in (s3.1 164 19) 12 ∧ (zc l g d M_X8_adds [.ref 164, .int p0, .int p1, .int p2, .int p3] (zI (zI s3 178 ((s3.1 164 19).toNatClampNeg) ((p4 / (100 : Int32)) - (20 : Int32))) 179 ((s3.1 164 19).toNatClampNeg) ((p4 % (100 : Int32)) - (20 : Int32))) (zKi (fun r8 s7 => s7.2.2.1 = s3.2.2.1 ∧ K r8 s7)))))) else K (-1 : Int32) s3) else K (-1 : Int32) s3)) else K (-1 : Int32) s3) else K (-1 : Int32) s3)))) else K (-1 : Int32) s1)))) else (if p0 = (4 : Int32) then (zc l g d M_X8_areMinutes [.int p1] s (zKz (fun b10 s9 => s9.2.2.1 = s.2.2.1 ∧ (if b10 = true then (zc l g d M_X8_isPlace [.int p2] s9 (zKz (fun b12 s11 => s11.2.2.1 = s9.2.2.1 ∧ (if b12 = true then (if (zinr p3.toInt64 (0 : Int64) (255 : Int64)) = true then (if p4 < 0 then K (-1 : Int32) s11 else (if (zinr ((p4 / (100 : Int32)).toInt64) (0 : Int64) (40 : Int64)) = true then (if (zinr ((p4 % (100 : Int32)).toInt64) (0 : Int64) (40 : Int64)) = true then (if (s11.1 164 19) = (12 : Int32) then K (-1 : Int32) s11 else (vp_in (s11.1 164 19) 12 ∧ (vp_in (s11.1 164 19) 12 ∧ (zc l g d M_X8_adds [.ref 164, .int p0, .int p1, .int p2, .int p3] (zI (zI s11 178 ((s11.1 164 19).toNatClampNeg) ((p4 / (100 : Int32)) - (20 : Int32))) 179 ((s11.1 164 19).toNatClampNeg) ((p4 % (100 : Int32)) - (20 : Int32))) (zKi (fun r16 s15 => s15.2.2.1 = s11.2.2.1 ∧ K r16 s15)))))) else K (-1 : Int32) s11) else K (-1 : Int32) s11)) else K (-1 : Int32) s11) else K (-1 : Int32) s11)))) else K (-1 : Int32) s9)))) else (if p0 = (5 : Int32) then (zc l g d M_X8_areMinutes [.int p1] s (zKz (fun b18 s17 => s17.2.2.1 = s.2.2.1 ∧ (if b18 = true then (zc l g d M_X8_isPlace [.int p2] s17 (zKz (fun b20 s19 => s19.2.2.1 = s17.2.2.1 ∧ (if b20 = true then (if (zinr p3.toInt64 (0 : Int64) (255 : Int64)) = true then (if p4 < 0 then K (-1 : Int32) s19 else (if (zinr ((p4 / (100 : Int32)).toInt64) (0 : Int64) (40 : Int64)) = true then (if (zinr ((p4 % (100 : Int32)).toInt64) (0 : Int64) (40 : Int64)) = true then (if (s19.1 164 19) = (12 : Int32) then K (-1 : Int32) s19 else (vp_in (s19.1 164 19) 12 ∧ (vp_in (s19.1 164 19) 12 ∧ (zc l g d M_X8_adds [.ref 164, .int p0, .int p1, .int p2, .int p3] (zI (zI s19 178 ((s19.1 164 19).toNatClampNeg) ((p4 / (100 : Int32)) - (20 : Int32))) 179 ((s19.1 164 19).toNatClampNeg) ((p4 % (100 : Int32)) - (20 : Int32))) (zKi (fun r24 s23 => s23.2.2.1 = s19.2.2.1 ∧ K r24 s23)))))) else K (-1 : Int32) s19) else K (-1 : Int32) s19)) else K (-1 : Int32) s19) else K (-1 : Int32) s19)))) else K (-1 : Int32) s17)))) else K (-1 : Int32) s)))) : zc l g (d + 1) M_X8_flies [.ref 164, .int p0, .int p1, .int p2, .int p3, .int p4] s (zKi K) := by
  refine zCall_of k_X8_flies (Nat.le_of_ble_eq_true rfl) (Nat.le_refl _) (fun _ => ?_)
  show zt l g (d + 1) M_X8_flies 0 [.ref 164, .int p0, .int p1, .int p2, .int p3, .int p4] [] s (zKi K)
  refine z_iload_n (i := 1) dX8_flies_0 rfl rfl rfl ?_
  refine z_iconst (v := (1 : Int32)) dX8_flies_1 (by decide) rfl ?_
  refine z_icmp_eq (pt := 15) dX8_flies_2 (by decide) rfl (fun c => ?_) (fun c => ?_)
  · have h := zit h c
    refine z_iload_n (i := 2) dX8_flies_15 rfl rfl rfl ?_
    refine z_callS (as := [.int p1]) k_X8_areMinutes m_X8_198 rfl h rfl (Nat.le_of_ble_eq_true rfl) dX8_flies_16 zy200 rfl ?_
    rintro v s1 ⟨b2, rfl, hRs1, h⟩
    show zt l g (d + 1) M_X8_flies 19 [.ref 164, .int p0, .int p1, .int p2, .int p3, .int p4] [.int (zb b2)] s1 _
    refine z_ifb_eq (pt := 88) dX8_flies_19 (by decide) rfl (fun c => ?_) (fun c => ?_)
    · have h := zif h (by rw [c]; exact Bool.false_ne_true)
      refine z_iconst (v := (-1 : Int32)) dX8_flies_88 (by decide) rfl ?_
      exact z_ret (some (.int (-1 : Int32))) (Or.inr (Or.inl ⟨_, _, rfl, rfl, rfl, dX8_flies_89⟩)) zN200 ⟨_, rfl, h⟩
    · have h := zit h c
      refine z_iload_n (i := 3) dX8_flies_22 rfl rfl rfl ?_
      refine z_callS (as := [.int p2]) k_X8_isPlace m_X8_157 rfl h rfl (Nat.le_of_ble_eq_true rfl) dX8_flies_23 zy200 rfl ?_
      rintro v s3 ⟨b4, rfl, hRs3, h⟩
      show zt l g (d + 1) M_X8_flies 26 [.ref 164, .int p0, .int p1, .int p2, .int p3, .int p4] [.int (zb b4)] s3 _
      refine z_ifb_eq (pt := 88) dX8_flies_26 (by decide) rfl (fun c => ?_) (fun c => ?_)
      · have h := zif h (by rw [c]; exact Bool.false_ne_true)
        refine z_iconst (v := (-1 : Int32)) dX8_flies_88 (by decide) rfl ?_
        exact z_ret (some (.int (-1 : Int32))) (Or.inr (Or.inl ⟨_, _, rfl, rfl, rfl, dX8_flies_89⟩)) zN200 ⟨_, rfl, h⟩
      · have h := zit h c
        refine z_iload dX8_flies_29 rfl rfl ?_
        refine z_i2l dX8_flies_31 rfl ?_
        refine z_lconst (v := (0 : Int64)) dX8_flies_32 (by decide) rfl ?_
        refine z_ldc2 (v := (255 : Int64)) q_X8_186 dX8_flies_33 rfl ?_
        refine z_in m_X8_147 dX8_flies_36 (Nat.le_of_ble_eq_true rfl) rfl ?_
        refine z_ifb_eq (pt := 88) dX8_flies_39 (by decide) rfl (fun c => ?_) (fun c => ?_)
        · have h := zif h (by rw [c]; exact Bool.false_ne_true)
          refine z_iconst (v := (-1 : Int32)) dX8_flies_88 (by decide) rfl ?_
          exact z_ret (some (.int (-1 : Int32))) (Or.inr (Or.inl ⟨_, _, rfl, rfl, rfl, dX8_flies_89⟩)) zN200 ⟨_, rfl, h⟩
        · have h := zit h c
          refine z_iload dX8_flies_42 rfl rfl ?_
          refine z_if_lt (pt := 88) dX8_flies_44 (by decide) rfl (fun c => ?_) (fun c => ?_)
          · have h := zit h c
            refine z_iconst (v := (-1 : Int32)) dX8_flies_88 (by decide) rfl ?_
            exact z_ret (some (.int (-1 : Int32))) (Or.inr (Or.inl ⟨_, _, rfl, rfl, rfl, dX8_flies_89⟩)) zN200 ⟨_, rfl, h⟩
          · have h := zif h c
            refine z_iload dX8_flies_47 rfl rfl ?_
            refine z_bipush (v := (100 : Int32)) dX8_flies_49 (by decide) rfl ?_
            refine z_idiv dX8_flies_51 (by decide) rfl ?_
            refine z_i2l dX8_flies_52 rfl ?_
            refine z_lconst (v := (0 : Int64)) dX8_flies_53 (by decide) rfl ?_
            refine z_ldc2 (v := (40 : Int64)) q_X8_201 dX8_flies_54 rfl ?_
            refine z_in m_X8_147 dX8_flies_57 (Nat.le_of_ble_eq_true rfl) rfl ?_
            refine z_ifb_eq (pt := 88) dX8_flies_60 (by decide) rfl (fun c => ?_) (fun c => ?_)
            · have h := zif h (by rw [c]; exact Bool.false_ne_true)
              refine z_iconst (v := (-1 : Int32)) dX8_flies_88 (by decide) rfl ?_
              exact z_ret (some (.int (-1 : Int32))) (Or.inr (Or.inl ⟨_, _, rfl, rfl, rfl, dX8_flies_89⟩)) zN200 ⟨_, rfl, h⟩
            · have h := zit h c
              refine z_iload dX8_flies_63 rfl rfl ?_
              refine z_bipush (v := (100 : Int32)) dX8_flies_65 (by decide) rfl ?_
              refine z_irem dX8_flies_67 (by decide) rfl ?_
              refine z_i2l dX8_flies_68 rfl ?_
              refine z_lconst (v := (0 : Int64)) dX8_flies_69 (by decide) rfl ?_
              refine z_ldc2 (v := (40 : Int64)) q_X8_201 dX8_flies_70 rfl ?_
              refine z_in m_X8_147 dX8_flies_73 (Nat.le_of_ble_eq_true rfl) rfl ?_
              refine z_ifb_eq (pt := 88) dX8_flies_76 (by decide) rfl (fun c => ?_) (fun c => ?_)
              · have h := zif h (by rw [c]; exact Bool.false_ne_true)
                refine z_iconst (v := (-1 : Int32)) dX8_flies_88 (by decide) rfl ?_
                exact z_ret (some (.int (-1 : Int32))) (Or.inr (Or.inl ⟨_, _, rfl, rfl, rfl, dX8_flies_89⟩)) zN200 ⟨_, rfl, h⟩
              · have h := zit h c
                refine z_aload_n (i := 0) dX8_flies_79 rfl rfl rfl ?_
                refine z_getI (x := s3.1 164 19) rfl f_X8_183 i_164 rfl dX8_flies_80 rfl ?_
                refine z_bipush (v := (12 : Int32)) dX8_flies_83 (by decide) rfl ?_
                refine z_icmp_ne (pt := 90) dX8_flies_85 (by decide) rfl (fun c => ?_) (fun c => ?_)
                · have h := zif h c
                  refine z_aload_n (i := 0) dX8_flies_90 rfl rfl rfl ?_
                  refine z_getR (q := 178) f_X8_49 i_164 rfl (r_164_13 (zRok_of hRs3 (zRok_of hRs1 hR))) (by decide) dX8_flies_91 rfl ?_
                  refine z_aload_n (i := 0) dX8_flies_94 rfl rfl rfl ?_
                  refine z_getI (x := s3.1 164 19) rfl f_X8_183 i_164 rfl dX8_flies_95 rfl ?_
                  refine z_iload dX8_flies_98 rfl rfl ?_
                  refine z_bipush (v := (100 : Int32)) dX8_flies_100 (by decide) rfl ?_
                  refine z_idiv dX8_flies_102 (by decide) rfl ?_
                  refine z_bipush (v := (20 : Int32)) dX8_flies_103 (by decide) rfl ?_
                  refine z_isub dX8_flies_105 rfl ?_
                  obtain ⟨a5, h⟩ := h
                  have wa5 := vin a5
                  refine z_iast a_178 a5 dX8_flies_106 rfl ?_
                  show zt l g (d + 1) M_X8_flies 107 [.ref 164, .int p0, .int p1, .int p2, .int p3, .int p4] [] (zI s3 178 ((s3.1 164 19).toNatClampNeg) ((p4 / (100 : Int32)) - (20 : Int32))) _
                  refine z_aload_n (i := 0) dX8_flies_107 rfl rfl rfl ?_
                  refine z_getR (q := 179) f_X8_52 i_164 rfl (r_164_14 (zRok_of hRs3 (zRok_of hRs1 hR))) (by decide) dX8_flies_108 rfl ?_
                  refine z_aload_n (i := 0) dX8_flies_111 rfl rfl rfl ?_
                  refine z_getI (x := s3.1 164 19) (zI_o (by decide)) f_X8_183 i_164 rfl dX8_flies_112 rfl ?_
                  refine z_iload dX8_flies_115 rfl rfl ?_
                  refine z_bipush (v := (100 : Int32)) dX8_flies_117 (by decide) rfl ?_
                  refine z_irem dX8_flies_119 (by decide) rfl ?_
                  refine z_bipush (v := (20 : Int32)) dX8_flies_120 (by decide) rfl ?_
                  refine z_isub dX8_flies_122 rfl ?_
                  obtain ⟨a6, h⟩ := h
                  have wa6 := vin a6
                  refine z_iast a_179 a6 dX8_flies_123 rfl ?_
                  show zt l g (d + 1) M_X8_flies 124 [.ref 164, .int p0, .int p1, .int p2, .int p3, .int p4] [] (zI (zI s3 178 ((s3.1 164 19).toNatClampNeg) ((p4 / (100 : Int32)) - (20 : Int32))) 179 ((s3.1 164 19).toNatClampNeg) ((p4 % (100 : Int32)) - (20 : Int32))) _
                  refine z_aload_n (i := 0) dX8_flies_124 rfl rfl rfl ?_
                  refine z_iload_n (i := 1) dX8_flies_125 rfl rfl rfl ?_
                  refine z_iload_n (i := 2) dX8_flies_126 rfl rfl rfl ?_
                  refine z_iload_n (i := 3) dX8_flies_127 rfl rfl rfl ?_
                  refine z_iload dX8_flies_128 rfl rfl ?_
                  refine z_callV k_X8_adds m_X8_194 (zRec_of i_164) rfl h rfl (Nat.le_of_ble_eq_true rfl) dX8_flies_130 zy200 rfl ?_
                  rintro v s7 ⟨r8, rfl, hRs7, h⟩
                  show zt l g (d + 1) M_X8_flies 133 [.ref 164, .int p0, .int p1, .int p2, .int p3, .int p4] [.int r8] s7 _
                  exact z_ret (some (.int r8)) (Or.inr (Or.inl ⟨_, _, rfl, rfl, rfl, dX8_flies_133⟩)) zN200 ⟨_, rfl, h⟩
                · have h := zit h c
                  refine z_iconst (v := (-1 : Int32)) dX8_flies_88 (by decide) rfl ?_
                  exact z_ret (some (.int (-1 : Int32))) (Or.inr (Or.inl ⟨_, _, rfl, rfl, rfl, dX8_flies_89⟩)) zN200 ⟨_, rfl, h⟩
  · have h := zif h c
    refine z_iload_n (i := 1) dX8_flies_5 rfl rfl rfl ?_
    refine z_iconst (v := (4 : Int32)) dX8_flies_6 (by decide) rfl ?_
    refine z_icmp_eq (pt := 15) dX8_flies_7 (by decide) rfl (fun c => ?_) (fun c => ?_)
    · have h := zit h c
      refine z_iload_n (i := 2) dX8_flies_15 rfl rfl rfl ?_
      refine z_callS (as := [.int p1]) k_X8_areMinutes m_X8_198 rfl h rfl (Nat.le_of_ble_eq_true rfl) dX8_flies_16 zy200 rfl ?_
      rintro v s9 ⟨b10, rfl, hRs9, h⟩
      show zt l g (d + 1) M_X8_flies 19 [.ref 164, .int p0, .int p1, .int p2, .int p3, .int p4] [.int (zb b10)] s9 _
      refine z_ifb_eq (pt := 88) dX8_flies_19 (by decide) rfl (fun c => ?_) (fun c => ?_)
      · have h := zif h (by rw [c]; exact Bool.false_ne_true)
        refine z_iconst (v := (-1 : Int32)) dX8_flies_88 (by decide) rfl ?_
        exact z_ret (some (.int (-1 : Int32))) (Or.inr (Or.inl ⟨_, _, rfl, rfl, rfl, dX8_flies_89⟩)) zN200 ⟨_, rfl, h⟩
      · have h := zit h c
        refine z_iload_n (i := 3) dX8_flies_22 rfl rfl rfl ?_
        refine z_callS (as := [.int p2]) k_X8_isPlace m_X8_157 rfl h rfl (Nat.le_of_ble_eq_true rfl) dX8_flies_23 zy200 rfl ?_
        rintro v s11 ⟨b12, rfl, hRs11, h⟩
        show zt l g (d + 1) M_X8_flies 26 [.ref 164, .int p0, .int p1, .int p2, .int p3, .int p4] [.int (zb b12)] s11 _
        refine z_ifb_eq (pt := 88) dX8_flies_26 (by decide) rfl (fun c => ?_) (fun c => ?_)
        · have h := zif h (by rw [c]; exact Bool.false_ne_true)
          refine z_iconst (v := (-1 : Int32)) dX8_flies_88 (by decide) rfl ?_
          exact z_ret (some (.int (-1 : Int32))) (Or.inr (Or.inl ⟨_, _, rfl, rfl, rfl, dX8_flies_89⟩)) zN200 ⟨_, rfl, h⟩
        · have h := zit h c
          refine z_iload dX8_flies_29 rfl rfl ?_
          refine z_i2l dX8_flies_31 rfl ?_
          refine z_lconst (v := (0 : Int64)) dX8_flies_32 (by decide) rfl ?_
          refine z_ldc2 (v := (255 : Int64)) q_X8_186 dX8_flies_33 rfl ?_
          refine z_in m_X8_147 dX8_flies_36 (Nat.le_of_ble_eq_true rfl) rfl ?_
          refine z_ifb_eq (pt := 88) dX8_flies_39 (by decide) rfl (fun c => ?_) (fun c => ?_)
          · have h := zif h (by rw [c]; exact Bool.false_ne_true)
            refine z_iconst (v := (-1 : Int32)) dX8_flies_88 (by decide) rfl ?_
            exact z_ret (some (.int (-1 : Int32))) (Or.inr (Or.inl ⟨_, _, rfl, rfl, rfl, dX8_flies_89⟩)) zN200 ⟨_, rfl, h⟩
          · have h := zit h c
            refine z_iload dX8_flies_42 rfl rfl ?_
            refine z_if_lt (pt := 88) dX8_flies_44 (by decide) rfl (fun c => ?_) (fun c => ?_)
            · have h := zit h c
              refine z_iconst (v := (-1 : Int32)) dX8_flies_88 (by decide) rfl ?_
              exact z_ret (some (.int (-1 : Int32))) (Or.inr (Or.inl ⟨_, _, rfl, rfl, rfl, dX8_flies_89⟩)) zN200 ⟨_, rfl, h⟩
            · have h := zif h c
              refine z_iload dX8_flies_47 rfl rfl ?_
              refine z_bipush (v := (100 : Int32)) dX8_flies_49 (by decide) rfl ?_
              refine z_idiv dX8_flies_51 (by decide) rfl ?_
              refine z_i2l dX8_flies_52 rfl ?_
              refine z_lconst (v := (0 : Int64)) dX8_flies_53 (by decide) rfl ?_
              refine z_ldc2 (v := (40 : Int64)) q_X8_201 dX8_flies_54 rfl ?_
              refine z_in m_X8_147 dX8_flies_57 (Nat.le_of_ble_eq_true rfl) rfl ?_
              refine z_ifb_eq (pt := 88) dX8_flies_60 (by decide) rfl (fun c => ?_) (fun c => ?_)
              · have h := zif h (by rw [c]; exact Bool.false_ne_true)
                refine z_iconst (v := (-1 : Int32)) dX8_flies_88 (by decide) rfl ?_
                exact z_ret (some (.int (-1 : Int32))) (Or.inr (Or.inl ⟨_, _, rfl, rfl, rfl, dX8_flies_89⟩)) zN200 ⟨_, rfl, h⟩
              · have h := zit h c
                refine z_iload dX8_flies_63 rfl rfl ?_
                refine z_bipush (v := (100 : Int32)) dX8_flies_65 (by decide) rfl ?_
                refine z_irem dX8_flies_67 (by decide) rfl ?_
                refine z_i2l dX8_flies_68 rfl ?_
                refine z_lconst (v := (0 : Int64)) dX8_flies_69 (by decide) rfl ?_
                refine z_ldc2 (v := (40 : Int64)) q_X8_201 dX8_flies_70 rfl ?_
                refine z_in m_X8_147 dX8_flies_73 (Nat.le_of_ble_eq_true rfl) rfl ?_
                refine z_ifb_eq (pt := 88) dX8_flies_76 (by decide) rfl (fun c => ?_) (fun c => ?_)
                · have h := zif h (by rw [c]; exact Bool.false_ne_true)
                  refine z_iconst (v := (-1 : Int32)) dX8_flies_88 (by decide) rfl ?_
                  exact z_ret (some (.int (-1 : Int32))) (Or.inr (Or.inl ⟨_, _, rfl, rfl, rfl, dX8_flies_89⟩)) zN200 ⟨_, rfl, h⟩
                · have h := zit h c
                  refine z_aload_n (i := 0) dX8_flies_79 rfl rfl rfl ?_
                  refine z_getI (x := s11.1 164 19) rfl f_X8_183 i_164 rfl dX8_flies_80 rfl ?_
                  refine z_bipush (v := (12 : Int32)) dX8_flies_83 (by decide) rfl ?_
                  refine z_icmp_ne (pt := 90) dX8_flies_85 (by decide) rfl (fun c => ?_) (fun c => ?_)
                  · have h := zif h c
                    refine z_aload_n (i := 0) dX8_flies_90 rfl rfl rfl ?_
                    refine z_getR (q := 178) f_X8_49 i_164 rfl (r_164_13 (zRok_of hRs11 (zRok_of hRs9 hR))) (by decide) dX8_flies_91 rfl ?_
                    refine z_aload_n (i := 0) dX8_flies_94 rfl rfl rfl ?_
                    refine z_getI (x := s11.1 164 19) rfl f_X8_183 i_164 rfl dX8_flies_95 rfl ?_
                    refine z_iload dX8_flies_98 rfl rfl ?_
                    refine z_bipush (v := (100 : Int32)) dX8_flies_100 (by decide) rfl ?_
                    refine z_idiv dX8_flies_102 (by decide) rfl ?_
                    refine z_bipush (v := (20 : Int32)) dX8_flies_103 (by decide) rfl ?_
                    refine z_isub dX8_flies_105 rfl ?_
                    obtain ⟨a13, h⟩ := h
                    have wa13 := vin a13
                    refine z_iast a_178 a13 dX8_flies_106 rfl ?_
                    show zt l g (d + 1) M_X8_flies 107 [.ref 164, .int p0, .int p1, .int p2, .int p3, .int p4] [] (zI s11 178 ((s11.1 164 19).toNatClampNeg) ((p4 / (100 : Int32)) - (20 : Int32))) _
                    refine z_aload_n (i := 0) dX8_flies_107 rfl rfl rfl ?_
                    refine z_getR (q := 179) f_X8_52 i_164 rfl (r_164_14 (zRok_of hRs11 (zRok_of hRs9 hR))) (by decide) dX8_flies_108 rfl ?_
                    refine z_aload_n (i := 0) dX8_flies_111 rfl rfl rfl ?_
                    refine z_getI (x := s11.1 164 19) (zI_o (by decide)) f_X8_183 i_164 rfl dX8_flies_112 rfl ?_
                    refine z_iload dX8_flies_115 rfl rfl ?_
                    refine z_bipush (v := (100 : Int32)) dX8_flies_117 (by decide) rfl ?_
                    refine z_irem dX8_flies_119 (by decide) rfl ?_
                    refine z_bipush (v := (20 : Int32)) dX8_flies_120 (by decide) rfl ?_
                    refine z_isub dX8_flies_122 rfl ?_
                    obtain ⟨a14, h⟩ := h
                    have wa14 := vin a14
                    refine z_iast a_179 a14 dX8_flies_123 rfl ?_
                    show zt l g (d + 1) M_X8_flies 124 [.ref 164, .int p0, .int p1, .int p2, .int p3, .int p4] [] (zI (zI s11 178 ((s11.1 164 19).toNatClampNeg) ((p4 / (100 : Int32)) - (20 : Int32))) 179 ((s11.1 164 19).toNatClampNeg) ((p4 % (100 : Int32)) - (20 : Int32))) _
                    refine z_aload_n (i := 0) dX8_flies_124 rfl rfl rfl ?_
                    refine z_iload_n (i := 1) dX8_flies_125 rfl rfl rfl ?_
                    refine z_iload_n (i := 2) dX8_flies_126 rfl rfl rfl ?_
                    refine z_iload_n (i := 3) dX8_flies_127 rfl rfl rfl ?_
                    refine z_iload dX8_flies_128 rfl rfl ?_
                    refine z_callV k_X8_adds m_X8_194 (zRec_of i_164) rfl h rfl (Nat.le_of_ble_eq_true rfl) dX8_flies_130 zy200 rfl ?_
                    rintro v s15 ⟨r16, rfl, hRs15, h⟩
                    show zt l g (d + 1) M_X8_flies 133 [.ref 164, .int p0, .int p1, .int p2, .int p3, .int p4] [.int r16] s15 _
                    exact z_ret (some (.int r16)) (Or.inr (Or.inl ⟨_, _, rfl, rfl, rfl, dX8_flies_133⟩)) zN200 ⟨_, rfl, h⟩
                  · have h := zit h c
                    refine z_iconst (v := (-1 : Int32)) dX8_flies_88 (by decide) rfl ?_
                    exact z_ret (some (.int (-1 : Int32))) (Or.inr (Or.inl ⟨_, _, rfl, rfl, rfl, dX8_flies_89⟩)) zN200 ⟨_, rfl, h⟩
    · have h := zif h c
      refine z_iload_n (i := 1) dX8_flies_10 rfl rfl rfl ?_
      refine z_iconst (v := (5 : Int32)) dX8_flies_11 (by decide) rfl ?_
      refine z_icmp_ne (pt := 88) dX8_flies_12 (by decide) rfl (fun c => ?_) (fun c => ?_)
      · have h := zif h c
        refine z_iconst (v := (-1 : Int32)) dX8_flies_88 (by decide) rfl ?_
        exact z_ret (some (.int (-1 : Int32))) (Or.inr (Or.inl ⟨_, _, rfl, rfl, rfl, dX8_flies_89⟩)) zN200 ⟨_, rfl, h⟩
      · have h := zit h c
        refine z_iload_n (i := 2) dX8_flies_15 rfl rfl rfl ?_
        refine z_callS (as := [.int p1]) k_X8_areMinutes m_X8_198 rfl h rfl (Nat.le_of_ble_eq_true rfl) dX8_flies_16 zy200 rfl ?_
        rintro v s17 ⟨b18, rfl, hRs17, h⟩
        show zt l g (d + 1) M_X8_flies 19 [.ref 164, .int p0, .int p1, .int p2, .int p3, .int p4] [.int (zb b18)] s17 _
        refine z_ifb_eq (pt := 88) dX8_flies_19 (by decide) rfl (fun c => ?_) (fun c => ?_)
        · have h := zif h (by rw [c]; exact Bool.false_ne_true)
          refine z_iconst (v := (-1 : Int32)) dX8_flies_88 (by decide) rfl ?_
          exact z_ret (some (.int (-1 : Int32))) (Or.inr (Or.inl ⟨_, _, rfl, rfl, rfl, dX8_flies_89⟩)) zN200 ⟨_, rfl, h⟩
        · have h := zit h c
          refine z_iload_n (i := 3) dX8_flies_22 rfl rfl rfl ?_
          refine z_callS (as := [.int p2]) k_X8_isPlace m_X8_157 rfl h rfl (Nat.le_of_ble_eq_true rfl) dX8_flies_23 zy200 rfl ?_
          rintro v s19 ⟨b20, rfl, hRs19, h⟩
          show zt l g (d + 1) M_X8_flies 26 [.ref 164, .int p0, .int p1, .int p2, .int p3, .int p4] [.int (zb b20)] s19 _
          refine z_ifb_eq (pt := 88) dX8_flies_26 (by decide) rfl (fun c => ?_) (fun c => ?_)
          · have h := zif h (by rw [c]; exact Bool.false_ne_true)
            refine z_iconst (v := (-1 : Int32)) dX8_flies_88 (by decide) rfl ?_
            exact z_ret (some (.int (-1 : Int32))) (Or.inr (Or.inl ⟨_, _, rfl, rfl, rfl, dX8_flies_89⟩)) zN200 ⟨_, rfl, h⟩
          · have h := zit h c
            refine z_iload dX8_flies_29 rfl rfl ?_
            refine z_i2l dX8_flies_31 rfl ?_
            refine z_lconst (v := (0 : Int64)) dX8_flies_32 (by decide) rfl ?_
            refine z_ldc2 (v := (255 : Int64)) q_X8_186 dX8_flies_33 rfl ?_
            refine z_in m_X8_147 dX8_flies_36 (Nat.le_of_ble_eq_true rfl) rfl ?_
            refine z_ifb_eq (pt := 88) dX8_flies_39 (by decide) rfl (fun c => ?_) (fun c => ?_)
            · have h := zif h (by rw [c]; exact Bool.false_ne_true)
              refine z_iconst (v := (-1 : Int32)) dX8_flies_88 (by decide) rfl ?_
              exact z_ret (some (.int (-1 : Int32))) (Or.inr (Or.inl ⟨_, _, rfl, rfl, rfl, dX8_flies_89⟩)) zN200 ⟨_, rfl, h⟩
            · have h := zit h c
              refine z_iload dX8_flies_42 rfl rfl ?_
              refine z_if_lt (pt := 88) dX8_flies_44 (by decide) rfl (fun c => ?_) (fun c => ?_)
              · have h := zit h c
                refine z_iconst (v := (-1 : Int32)) dX8_flies_88 (by decide) rfl ?_
                exact z_ret (some (.int (-1 : Int32))) (Or.inr (Or.inl ⟨_, _, rfl, rfl, rfl, dX8_flies_89⟩)) zN200 ⟨_, rfl, h⟩
              · have h := zif h c
                refine z_iload dX8_flies_47 rfl rfl ?_
                refine z_bipush (v := (100 : Int32)) dX8_flies_49 (by decide) rfl ?_
                refine z_idiv dX8_flies_51 (by decide) rfl ?_
                refine z_i2l dX8_flies_52 rfl ?_
                refine z_lconst (v := (0 : Int64)) dX8_flies_53 (by decide) rfl ?_
                refine z_ldc2 (v := (40 : Int64)) q_X8_201 dX8_flies_54 rfl ?_
                refine z_in m_X8_147 dX8_flies_57 (Nat.le_of_ble_eq_true rfl) rfl ?_
                refine z_ifb_eq (pt := 88) dX8_flies_60 (by decide) rfl (fun c => ?_) (fun c => ?_)
                · have h := zif h (by rw [c]; exact Bool.false_ne_true)
                  refine z_iconst (v := (-1 : Int32)) dX8_flies_88 (by decide) rfl ?_
                  exact z_ret (some (.int (-1 : Int32))) (Or.inr (Or.inl ⟨_, _, rfl, rfl, rfl, dX8_flies_89⟩)) zN200 ⟨_, rfl, h⟩
                · have h := zit h c
                  refine z_iload dX8_flies_63 rfl rfl ?_
                  refine z_bipush (v := (100 : Int32)) dX8_flies_65 (by decide) rfl ?_
                  refine z_irem dX8_flies_67 (by decide) rfl ?_
                  refine z_i2l dX8_flies_68 rfl ?_
                  refine z_lconst (v := (0 : Int64)) dX8_flies_69 (by decide) rfl ?_
                  refine z_ldc2 (v := (40 : Int64)) q_X8_201 dX8_flies_70 rfl ?_
                  refine z_in m_X8_147 dX8_flies_73 (Nat.le_of_ble_eq_true rfl) rfl ?_
                  refine z_ifb_eq (pt := 88) dX8_flies_76 (by decide) rfl (fun c => ?_) (fun c => ?_)
                  · have h := zif h (by rw [c]; exact Bool.false_ne_true)
                    refine z_iconst (v := (-1 : Int32)) dX8_flies_88 (by decide) rfl ?_
                    exact z_ret (some (.int (-1 : Int32))) (Or.inr (Or.inl ⟨_, _, rfl, rfl, rfl, dX8_flies_89⟩)) zN200 ⟨_, rfl, h⟩
                  · have h := zit h c
                    refine z_aload_n (i := 0) dX8_flies_79 rfl rfl rfl ?_
                    refine z_getI (x := s19.1 164 19) rfl f_X8_183 i_164 rfl dX8_flies_80 rfl ?_
                    refine z_bipush (v := (12 : Int32)) dX8_flies_83 (by decide) rfl ?_
                    refine z_icmp_ne (pt := 90) dX8_flies_85 (by decide) rfl (fun c => ?_) (fun c => ?_)
                    · have h := zif h c
                      refine z_aload_n (i := 0) dX8_flies_90 rfl rfl rfl ?_
                      refine z_getR (q := 178) f_X8_49 i_164 rfl (r_164_13 (zRok_of hRs19 (zRok_of hRs17 hR))) (by decide) dX8_flies_91 rfl ?_
                      refine z_aload_n (i := 0) dX8_flies_94 rfl rfl rfl ?_
                      refine z_getI (x := s19.1 164 19) rfl f_X8_183 i_164 rfl dX8_flies_95 rfl ?_
                      refine z_iload dX8_flies_98 rfl rfl ?_
                      refine z_bipush (v := (100 : Int32)) dX8_flies_100 (by decide) rfl ?_
                      refine z_idiv dX8_flies_102 (by decide) rfl ?_
                      refine z_bipush (v := (20 : Int32)) dX8_flies_103 (by decide) rfl ?_
                      refine z_isub dX8_flies_105 rfl ?_
                      obtain ⟨a21, h⟩ := h
                      have wa21 := vin a21
                      refine z_iast a_178 a21 dX8_flies_106 rfl ?_
                      show zt l g (d + 1) M_X8_flies 107 [.ref 164, .int p0, .int p1, .int p2, .int p3, .int p4] [] (zI s19 178 ((s19.1 164 19).toNatClampNeg) ((p4 / (100 : Int32)) - (20 : Int32))) _
                      refine z_aload_n (i := 0) dX8_flies_107 rfl rfl rfl ?_
                      refine z_getR (q := 179) f_X8_52 i_164 rfl (r_164_14 (zRok_of hRs19 (zRok_of hRs17 hR))) (by decide) dX8_flies_108 rfl ?_
                      refine z_aload_n (i := 0) dX8_flies_111 rfl rfl rfl ?_
                      refine z_getI (x := s19.1 164 19) (zI_o (by decide)) f_X8_183 i_164 rfl dX8_flies_112 rfl ?_
                      refine z_iload dX8_flies_115 rfl rfl ?_
                      refine z_bipush (v := (100 : Int32)) dX8_flies_117 (by decide) rfl ?_
                      refine z_irem dX8_flies_119 (by decide) rfl ?_
                      refine z_bipush (v := (20 : Int32)) dX8_flies_120 (by decide) rfl ?_
                      refine z_isub dX8_flies_122 rfl ?_
                      obtain ⟨a22, h⟩ := h
                      have wa22 := vin a22
                      refine z_iast a_179 a22 dX8_flies_123 rfl ?_
                      show zt l g (d + 1) M_X8_flies 124 [.ref 164, .int p0, .int p1, .int p2, .int p3, .int p4] [] (zI (zI s19 178 ((s19.1 164 19).toNatClampNeg) ((p4 / (100 : Int32)) - (20 : Int32))) 179 ((s19.1 164 19).toNatClampNeg) ((p4 % (100 : Int32)) - (20 : Int32))) _
                      refine z_aload_n (i := 0) dX8_flies_124 rfl rfl rfl ?_
                      refine z_iload_n (i := 1) dX8_flies_125 rfl rfl rfl ?_
                      refine z_iload_n (i := 2) dX8_flies_126 rfl rfl rfl ?_
                      refine z_iload_n (i := 3) dX8_flies_127 rfl rfl rfl ?_
                      refine z_iload dX8_flies_128 rfl rfl ?_
                      refine z_callV k_X8_adds m_X8_194 (zRec_of i_164) rfl h rfl (Nat.le_of_ble_eq_true rfl) dX8_flies_130 zy200 rfl ?_
                      rintro v s23 ⟨r24, rfl, hRs23, h⟩
                      show zt l g (d + 1) M_X8_flies 133 [.ref 164, .int p0, .int p1, .int p2, .int p3, .int p4] [.int r24] s23 _
                      exact z_ret (some (.int r24)) (Or.inr (Or.inl ⟨_, _, rfl, rfl, rfl, dX8_flies_133⟩)) zN200 ⟨_, rfl, h⟩
                    · have h := zit h c
                      refine z_iconst (v := (-1 : Int32)) dX8_flies_88 (by decide) rfl ?_
                      exact z_ret (some (.int (-1 : Int32))) (Or.inr (Or.inl ⟨_, _, rfl, rfl, rfl, dX8_flies_89⟩)) zN200 ⟨_, rfl, h⟩
theorem dX8_flare_0 : decode cX8_flare 0 = .ok (.iload_n 1, 1) := by decide +kernel
theorem dX8_flare_1 : decode cX8_flare 1 = .ok (.invokestatic 198, 3) := by decide +kernel
theorem dX8_flare_4 : decode cX8_flare 4 = .ok (.ifCond .eq 44, 3) := by decide +kernel
theorem dX8_flare_7 : decode cX8_flare 7 = .ok (.iload_n 2, 1) := by decide +kernel
theorem dX8_flare_8 : decode cX8_flare 8 = .ok (.invokestatic 157, 3) := by decide +kernel
theorem dX8_flare_11 : decode cX8_flare 11 = .ok (.ifCond .eq 37, 3) := by decide +kernel
theorem dX8_flare_14 : decode cX8_flare 14 = .ok (.iload_n 3, 1) := by decide +kernel
theorem dX8_flare_15 : decode cX8_flare 15 = .ok (.i2l, 1) := by decide +kernel
theorem dX8_flare_16 : decode cX8_flare 16 = .ok (.lconst 0, 1) := by decide +kernel
theorem dX8_flare_17 : decode cX8_flare 17 = .ok (.ldc2_w 186, 3) := by decide +kernel
theorem dX8_flare_20 : decode cX8_flare 20 = .ok (.invokestatic 147, 3) := by decide +kernel
theorem dX8_flare_23 : decode cX8_flare 23 = .ok (.ifCond .eq 25, 3) := by decide +kernel
theorem dX8_flare_26 : decode cX8_flare 26 = .ok (.iload 4, 2) := by decide +kernel
theorem dX8_flare_28 : decode cX8_flare 28 = .ok (.i2l, 1) := by decide +kernel
theorem dX8_flare_29 : decode cX8_flare 29 = .ok (.lconst 0, 1) := by decide +kernel
theorem dX8_flare_30 : decode cX8_flare 30 = .ok (.ldc2_w 203, 3) := by decide +kernel
theorem dX8_flare_33 : decode cX8_flare 33 = .ok (.invokestatic 147, 3) := by decide +kernel
theorem dX8_flare_36 : decode cX8_flare 36 = .ok (.ifCond .eq 12, 3) := by decide +kernel
theorem dX8_flare_39 : decode cX8_flare 39 = .ok (.aload_n 0, 1) := by decide +kernel
theorem dX8_flare_40 : decode cX8_flare 40 = .ok (.getfield 183, 3) := by decide +kernel
theorem dX8_flare_43 : decode cX8_flare 43 = .ok (.bipush 12, 2) := by decide +kernel
theorem dX8_flare_45 : decode cX8_flare 45 = .ok (.if_icmp .ne 5, 3) := by decide +kernel
theorem dX8_flare_48 : decode cX8_flare 48 = .ok (.iconst (-1), 1) := by decide +kernel
theorem dX8_flare_49 : decode cX8_flare 49 = .ok (.ireturn, 1) := by decide +kernel
theorem dX8_flare_50 : decode cX8_flare 50 = .ok (.aload_n 0, 1) := by decide +kernel
theorem dX8_flare_51 : decode cX8_flare 51 = .ok (.getfield 49, 3) := by decide +kernel
theorem dX8_flare_54 : decode cX8_flare 54 = .ok (.aload_n 0, 1) := by decide +kernel
theorem dX8_flare_55 : decode cX8_flare 55 = .ok (.getfield 183, 3) := by decide +kernel
theorem dX8_flare_58 : decode cX8_flare 58 = .ok (.iload 4, 2) := by decide +kernel
theorem dX8_flare_60 : decode cX8_flare 60 = .ok (.iastore, 1) := by decide +kernel
theorem dX8_flare_61 : decode cX8_flare 61 = .ok (.aload_n 0, 1) := by decide +kernel
theorem dX8_flare_62 : decode cX8_flare 62 = .ok (.iconst 2, 1) := by decide +kernel
theorem dX8_flare_63 : decode cX8_flare 63 = .ok (.iload_n 1, 1) := by decide +kernel
theorem dX8_flare_64 : decode cX8_flare 64 = .ok (.iload_n 2, 1) := by decide +kernel
theorem dX8_flare_65 : decode cX8_flare 65 = .ok (.iload_n 3, 1) := by decide +kernel
theorem dX8_flare_66 : decode cX8_flare 66 = .ok (.invokevirtual 194, 3) := by decide +kernel
theorem dX8_flare_69 : decode cX8_flare 69 = .ok (.ireturn, 1) := by decide +kernel
set_option maxHeartbeats 4000000 in
set_option maxRecDepth 100000 in
theorem t_X8_flare {l : Launch} {g : zG} {d : Nat} {s : zS} (hR : zRok s) {p0 : Int32} {p1 : Int32} {p2 : Int32} {p3 : Int32} {K : Int32 → zS → Prop} (h : (zc l g d M_X8_areMinutes [.int p0] s (zKz (fun b2 s1 => s1.2.2.1 = s.2.2.1 ∧ (if b2 = true then (zc l g d M_X8_isPlace [.int p1] s1 (zKz (fun b4 s3 => s3.2.2.1 = s1.2.2.1 ∧ (if b4 = true then (if (zinr p2.toInt64 (0 : Int64) (255 : Int64)) = true then (if (zinr p3.toInt64 (0 : Int64) (20 : Int64)) = true then (if (s3.1 164 19) = (12 : Int32) then K (-1 : Int32) s3 else (vp_in (s3.1 164 19) 12 ∧ (zc l g d M_X8_adds [.ref 164, .int (2 : Int32), .int p0, .int p1, .int p2] (zI s3 178 ((s3.1 164 19).toNatClampNeg) p3) (zKi (fun r7 s6 => s6.2.2.1 = s3.2.2.1 ∧ K r7 s6))))) else K (-1 : Int32) s3) else K (-1 : Int32) s3) else K (-1 : Int32) s3)))) else K (-1 : Int32) s1))))) : zc l g (d + 1) M_X8_flare [.ref 164, .int p0, .int p1, .int p2, .int p3] s (zKi K) := by
  refine zCall_of k_X8_flare (Nat.le_of_ble_eq_true rfl) (Nat.le_refl _) (fun _ => ?_)
  show zt l g (d + 1) M_X8_flare 0 [.ref 164, .int p0, .int p1, .int p2, .int p3] [] s (zKi K)
  refine z_iload_n (i := 1) dX8_flare_0 rfl rfl rfl ?_
  refine z_callS (as := [.int p0]) k_X8_areMinutes m_X8_198 rfl h rfl (Nat.le_of_ble_eq_true rfl) dX8_flare_1 zy200 rfl ?_
  rintro v s1 ⟨b2, rfl, hRs1, h⟩
  show zt l g (d + 1) M_X8_flare 4 [.ref 164, .int p0, .int p1, .int p2, .int p3] [.int (zb b2)] s1 _
  refine z_ifb_eq (pt := 48) dX8_flare_4 (by decide) rfl (fun c => ?_) (fun c => ?_)
  · have h := zif h (by rw [c]; exact Bool.false_ne_true)
    refine z_iconst (v := (-1 : Int32)) dX8_flare_48 (by decide) rfl ?_
    exact z_ret (some (.int (-1 : Int32))) (Or.inr (Or.inl ⟨_, _, rfl, rfl, rfl, dX8_flare_49⟩)) zN200 ⟨_, rfl, h⟩
  · have h := zit h c
    refine z_iload_n (i := 2) dX8_flare_7 rfl rfl rfl ?_
    refine z_callS (as := [.int p1]) k_X8_isPlace m_X8_157 rfl h rfl (Nat.le_of_ble_eq_true rfl) dX8_flare_8 zy200 rfl ?_
    rintro v s3 ⟨b4, rfl, hRs3, h⟩
    show zt l g (d + 1) M_X8_flare 11 [.ref 164, .int p0, .int p1, .int p2, .int p3] [.int (zb b4)] s3 _
    refine z_ifb_eq (pt := 48) dX8_flare_11 (by decide) rfl (fun c => ?_) (fun c => ?_)
    · have h := zif h (by rw [c]; exact Bool.false_ne_true)
      refine z_iconst (v := (-1 : Int32)) dX8_flare_48 (by decide) rfl ?_
      exact z_ret (some (.int (-1 : Int32))) (Or.inr (Or.inl ⟨_, _, rfl, rfl, rfl, dX8_flare_49⟩)) zN200 ⟨_, rfl, h⟩
    · have h := zit h c
      refine z_iload_n (i := 3) dX8_flare_14 rfl rfl rfl ?_
      refine z_i2l dX8_flare_15 rfl ?_
      refine z_lconst (v := (0 : Int64)) dX8_flare_16 (by decide) rfl ?_
      refine z_ldc2 (v := (255 : Int64)) q_X8_186 dX8_flare_17 rfl ?_
      refine z_in m_X8_147 dX8_flare_20 (Nat.le_of_ble_eq_true rfl) rfl ?_
      refine z_ifb_eq (pt := 48) dX8_flare_23 (by decide) rfl (fun c => ?_) (fun c => ?_)
      · have h := zif h (by rw [c]; exact Bool.false_ne_true)
        refine z_iconst (v := (-1 : Int32)) dX8_flare_48 (by decide) rfl ?_
        exact z_ret (some (.int (-1 : Int32))) (Or.inr (Or.inl ⟨_, _, rfl, rfl, rfl, dX8_flare_49⟩)) zN200 ⟨_, rfl, h⟩
      · have h := zit h c
        refine z_iload dX8_flare_26 rfl rfl ?_
        refine z_i2l dX8_flare_28 rfl ?_
        refine z_lconst (v := (0 : Int64)) dX8_flare_29 (by decide) rfl ?_
        refine z_ldc2 (v := (20 : Int64)) q_X8_203 dX8_flare_30 rfl ?_
        refine z_in m_X8_147 dX8_flare_33 (Nat.le_of_ble_eq_true rfl) rfl ?_
        refine z_ifb_eq (pt := 48) dX8_flare_36 (by decide) rfl (fun c => ?_) (fun c => ?_)
        · have h := zif h (by rw [c]; exact Bool.false_ne_true)
          refine z_iconst (v := (-1 : Int32)) dX8_flare_48 (by decide) rfl ?_
          exact z_ret (some (.int (-1 : Int32))) (Or.inr (Or.inl ⟨_, _, rfl, rfl, rfl, dX8_flare_49⟩)) zN200 ⟨_, rfl, h⟩
        · have h := zit h c
          refine z_aload_n (i := 0) dX8_flare_39 rfl rfl rfl ?_
          refine z_getI (x := s3.1 164 19) rfl f_X8_183 i_164 rfl dX8_flare_40 rfl ?_
          refine z_bipush (v := (12 : Int32)) dX8_flare_43 (by decide) rfl ?_
          refine z_icmp_ne (pt := 50) dX8_flare_45 (by decide) rfl (fun c => ?_) (fun c => ?_)
          · have h := zif h c
            refine z_aload_n (i := 0) dX8_flare_50 rfl rfl rfl ?_
            refine z_getR (q := 178) f_X8_49 i_164 rfl (r_164_13 (zRok_of hRs3 (zRok_of hRs1 hR))) (by decide) dX8_flare_51 rfl ?_
            refine z_aload_n (i := 0) dX8_flare_54 rfl rfl rfl ?_
            refine z_getI (x := s3.1 164 19) rfl f_X8_183 i_164 rfl dX8_flare_55 rfl ?_
            refine z_iload dX8_flare_58 rfl rfl ?_
            obtain ⟨a5, h⟩ := h
            have wa5 := vin a5
            refine z_iast a_178 a5 dX8_flare_60 rfl ?_
            show zt l g (d + 1) M_X8_flare 61 [.ref 164, .int p0, .int p1, .int p2, .int p3] [] (zI s3 178 ((s3.1 164 19).toNatClampNeg) p3) _
            refine z_aload_n (i := 0) dX8_flare_61 rfl rfl rfl ?_
            refine z_iconst (v := (2 : Int32)) dX8_flare_62 (by decide) rfl ?_
            refine z_iload_n (i := 1) dX8_flare_63 rfl rfl rfl ?_
            refine z_iload_n (i := 2) dX8_flare_64 rfl rfl rfl ?_
            refine z_iload_n (i := 3) dX8_flare_65 rfl rfl rfl ?_
            refine z_callV k_X8_adds m_X8_194 (zRec_of i_164) rfl h rfl (Nat.le_of_ble_eq_true rfl) dX8_flare_66 zy200 rfl ?_
            rintro v s6 ⟨r7, rfl, hRs6, h⟩
            show zt l g (d + 1) M_X8_flare 69 [.ref 164, .int p0, .int p1, .int p2, .int p3] [.int r7] s6 _
            exact z_ret (some (.int r7)) (Or.inr (Or.inl ⟨_, _, rfl, rfl, rfl, dX8_flare_69⟩)) zN200 ⟨_, rfl, h⟩
          · have h := zit h c
            refine z_iconst (v := (-1 : Int32)) dX8_flare_48 (by decide) rfl ?_
            exact z_ret (some (.int (-1 : Int32))) (Or.inr (Or.inl ⟨_, _, rfl, rfl, rfl, dX8_flare_49⟩)) zN200 ⟨_, rfl, h⟩
theorem dX8_lamp_0 : decode cX8_lamp 0 = .ok (.iload_n 1, 1) := by decide +kernel
theorem dX8_lamp_1 : decode cX8_lamp 1 = .ok (.invokestatic 157, 3) := by decide +kernel
theorem dX8_lamp_4 : decode cX8_lamp 4 = .ok (.ifCond .eq 50, 3) := by decide +kernel
theorem dX8_lamp_7 : decode cX8_lamp 7 = .ok (.iload_n 2, 1) := by decide +kernel
theorem dX8_lamp_8 : decode cX8_lamp 8 = .ok (.i2l, 1) := by decide +kernel
theorem dX8_lamp_9 : decode cX8_lamp 9 = .ok (.lconst 0, 1) := by decide +kernel
theorem dX8_lamp_10 : decode cX8_lamp 10 = .ok (.ldc2_w 160, 3) := by decide +kernel
theorem dX8_lamp_13 : decode cX8_lamp 13 = .ok (.invokestatic 147, 3) := by decide +kernel
theorem dX8_lamp_16 : decode cX8_lamp 16 = .ok (.ifCond .eq 38, 3) := by decide +kernel
theorem dX8_lamp_19 : decode cX8_lamp 19 = .ok (.iload_n 3, 1) := by decide +kernel
theorem dX8_lamp_20 : decode cX8_lamp 20 = .ok (.i2l, 1) := by decide +kernel
theorem dX8_lamp_21 : decode cX8_lamp 21 = .ok (.lconst 1, 1) := by decide +kernel
theorem dX8_lamp_22 : decode cX8_lamp 22 = .ok (.ldc2_w 205, 3) := by decide +kernel
theorem dX8_lamp_25 : decode cX8_lamp 25 = .ok (.invokestatic 147, 3) := by decide +kernel
theorem dX8_lamp_28 : decode cX8_lamp 28 = .ok (.ifCond .eq 26, 3) := by decide +kernel
theorem dX8_lamp_31 : decode cX8_lamp 31 = .ok (.iload 4, 2) := by decide +kernel
theorem dX8_lamp_33 : decode cX8_lamp 33 = .ok (.i2l, 1) := by decide +kernel
theorem dX8_lamp_34 : decode cX8_lamp 34 = .ok (.lconst 0, 1) := by decide +kernel
theorem dX8_lamp_35 : decode cX8_lamp 35 = .ok (.iload_n 3, 1) := by decide +kernel
theorem dX8_lamp_36 : decode cX8_lamp 36 = .ok (.iconst 1, 1) := by decide +kernel
theorem dX8_lamp_37 : decode cX8_lamp 37 = .ok (.isub, 1) := by decide +kernel
theorem dX8_lamp_38 : decode cX8_lamp 38 = .ok (.i2l, 1) := by decide +kernel
theorem dX8_lamp_39 : decode cX8_lamp 39 = .ok (.invokestatic 147, 3) := by decide +kernel
theorem dX8_lamp_42 : decode cX8_lamp 42 = .ok (.ifCond .eq 12, 3) := by decide +kernel
theorem dX8_lamp_45 : decode cX8_lamp 45 = .ok (.aload_n 0, 1) := by decide +kernel
theorem dX8_lamp_46 : decode cX8_lamp 46 = .ok (.getfield 183, 3) := by decide +kernel
theorem dX8_lamp_49 : decode cX8_lamp 49 = .ok (.bipush 12, 2) := by decide +kernel
theorem dX8_lamp_51 : decode cX8_lamp 51 = .ok (.if_icmp .ne 5, 3) := by decide +kernel
theorem dX8_lamp_54 : decode cX8_lamp 54 = .ok (.iconst (-1), 1) := by decide +kernel
theorem dX8_lamp_55 : decode cX8_lamp 55 = .ok (.ireturn, 1) := by decide +kernel
theorem dX8_lamp_56 : decode cX8_lamp 56 = .ok (.aload_n 0, 1) := by decide +kernel
theorem dX8_lamp_57 : decode cX8_lamp 57 = .ok (.getfield 55, 3) := by decide +kernel
theorem dX8_lamp_60 : decode cX8_lamp 60 = .ok (.aload_n 0, 1) := by decide +kernel
theorem dX8_lamp_61 : decode cX8_lamp 61 = .ok (.getfield 183, 3) := by decide +kernel
theorem dX8_lamp_64 : decode cX8_lamp 64 = .ok (.iload_n 3, 1) := by decide +kernel
theorem dX8_lamp_65 : decode cX8_lamp 65 = .ok (.iastore, 1) := by decide +kernel
theorem dX8_lamp_66 : decode cX8_lamp 66 = .ok (.aload_n 0, 1) := by decide +kernel
theorem dX8_lamp_67 : decode cX8_lamp 67 = .ok (.getfield 58, 3) := by decide +kernel
theorem dX8_lamp_70 : decode cX8_lamp 70 = .ok (.aload_n 0, 1) := by decide +kernel
theorem dX8_lamp_71 : decode cX8_lamp 71 = .ok (.getfield 183, 3) := by decide +kernel
theorem dX8_lamp_74 : decode cX8_lamp 74 = .ok (.iload 4, 2) := by decide +kernel
theorem dX8_lamp_76 : decode cX8_lamp 76 = .ok (.iastore, 1) := by decide +kernel
theorem dX8_lamp_77 : decode cX8_lamp 77 = .ok (.aload_n 0, 1) := by decide +kernel
theorem dX8_lamp_78 : decode cX8_lamp 78 = .ok (.iconst 3, 1) := by decide +kernel
theorem dX8_lamp_79 : decode cX8_lamp 79 = .ok (.iconst 0, 1) := by decide +kernel
theorem dX8_lamp_80 : decode cX8_lamp 80 = .ok (.iload_n 1, 1) := by decide +kernel
theorem dX8_lamp_81 : decode cX8_lamp 81 = .ok (.iload_n 2, 1) := by decide +kernel
theorem dX8_lamp_82 : decode cX8_lamp 82 = .ok (.invokevirtual 194, 3) := by decide +kernel
theorem dX8_lamp_85 : decode cX8_lamp 85 = .ok (.ireturn, 1) := by decide +kernel
set_option maxHeartbeats 4000000 in
set_option maxRecDepth 100000 in
theorem t_X8_lamp {l : Launch} {g : zG} {d : Nat} {s : zS} (hR : zRok s) {p0 : Int32} {p1 : Int32} {p2 : Int32} {p3 : Int32} {K : Int32 → zS → Prop} (h : (zc l g d M_X8_isPlace [.int p0] s (zKz (fun b2 s1 => s1.2.2.1 = s.2.2.1 ∧ (if b2 = true then (if (zinr p1.toInt64 (0 : Int64) (60 : Int64)) = true then (if (zinr p2.toInt64 (1 : Int64) (30 : Int64)) = true then (if (zinr p3.toInt64 (0 : Int64) ((p2 - (1 : Int32)).toInt64)) = true then (if (s1.1 164 19) = (12 : Int32) then K (-1 : Int32) s1 else (vp_in (s1.1 164 19) 12 ∧ (vp_in (s1.1 164 19) 12 ∧ (zc l g d M_X8_adds [.ref 164, .int (3 : Int32), .int (0 : Int32), .int p0, .int p1] (zI (zI s1 180 ((s1.1 164 19).toNatClampNeg) p2) 181 ((s1.1 164 19).toNatClampNeg) p3) (zKi (fun r6 s5 => s5.2.2.1 = s1.2.2.1 ∧ K r6 s5)))))) else K (-1 : Int32) s1) else K (-1 : Int32) s1) else K (-1 : Int32) s1) else K (-1 : Int32) s1))))) : zc l g (d + 1) M_X8_lamp [.ref 164, .int p0, .int p1, .int p2, .int p3] s (zKi K) := by
  refine zCall_of k_X8_lamp (Nat.le_of_ble_eq_true rfl) (Nat.le_refl _) (fun _ => ?_)
  show zt l g (d + 1) M_X8_lamp 0 [.ref 164, .int p0, .int p1, .int p2, .int p3] [] s (zKi K)
  refine z_iload_n (i := 1) dX8_lamp_0 rfl rfl rfl ?_
  refine z_callS (as := [.int p0]) k_X8_isPlace m_X8_157 rfl h rfl (Nat.le_of_ble_eq_true rfl) dX8_lamp_1 zy200 rfl ?_
  rintro v s1 ⟨b2, rfl, hRs1, h⟩
  show zt l g (d + 1) M_X8_lamp 4 [.ref 164, .int p0, .int p1, .int p2, .int p3] [.int (zb b2)] s1 _
  refine z_ifb_eq (pt := 54) dX8_lamp_4 (by decide) rfl (fun c => ?_) (fun c => ?_)
  · have h := zif h (by rw [c]; exact Bool.false_ne_true)
    refine z_iconst (v := (-1 : Int32)) dX8_lamp_54 (by decide) rfl ?_
    exact z_ret (some (.int (-1 : Int32))) (Or.inr (Or.inl ⟨_, _, rfl, rfl, rfl, dX8_lamp_55⟩)) zN200 ⟨_, rfl, h⟩
  · have h := zit h c
    refine z_iload_n (i := 2) dX8_lamp_7 rfl rfl rfl ?_
    refine z_i2l dX8_lamp_8 rfl ?_
    refine z_lconst (v := (0 : Int64)) dX8_lamp_9 (by decide) rfl ?_
    refine z_ldc2 (v := (60 : Int64)) q_X8_160 dX8_lamp_10 rfl ?_
    refine z_in m_X8_147 dX8_lamp_13 (Nat.le_of_ble_eq_true rfl) rfl ?_
    refine z_ifb_eq (pt := 54) dX8_lamp_16 (by decide) rfl (fun c => ?_) (fun c => ?_)
    · have h := zif h (by rw [c]; exact Bool.false_ne_true)
      refine z_iconst (v := (-1 : Int32)) dX8_lamp_54 (by decide) rfl ?_
      exact z_ret (some (.int (-1 : Int32))) (Or.inr (Or.inl ⟨_, _, rfl, rfl, rfl, dX8_lamp_55⟩)) zN200 ⟨_, rfl, h⟩
    · have h := zit h c
      refine z_iload_n (i := 3) dX8_lamp_19 rfl rfl rfl ?_
      refine z_i2l dX8_lamp_20 rfl ?_
      refine z_lconst (v := (1 : Int64)) dX8_lamp_21 (by decide) rfl ?_
      refine z_ldc2 (v := (30 : Int64)) q_X8_205 dX8_lamp_22 rfl ?_
      refine z_in m_X8_147 dX8_lamp_25 (Nat.le_of_ble_eq_true rfl) rfl ?_
      refine z_ifb_eq (pt := 54) dX8_lamp_28 (by decide) rfl (fun c => ?_) (fun c => ?_)
      · have h := zif h (by rw [c]; exact Bool.false_ne_true)
        refine z_iconst (v := (-1 : Int32)) dX8_lamp_54 (by decide) rfl ?_
        exact z_ret (some (.int (-1 : Int32))) (Or.inr (Or.inl ⟨_, _, rfl, rfl, rfl, dX8_lamp_55⟩)) zN200 ⟨_, rfl, h⟩
      · have h := zit h c
        refine z_iload dX8_lamp_31 rfl rfl ?_
        refine z_i2l dX8_lamp_33 rfl ?_
        refine z_lconst (v := (0 : Int64)) dX8_lamp_34 (by decide) rfl ?_
        refine z_iload_n (i := 3) dX8_lamp_35 rfl rfl rfl ?_
        refine z_iconst (v := (1 : Int32)) dX8_lamp_36 (by decide) rfl ?_
        refine z_isub dX8_lamp_37 rfl ?_
        refine z_i2l dX8_lamp_38 rfl ?_
        refine z_in m_X8_147 dX8_lamp_39 (Nat.le_of_ble_eq_true rfl) rfl ?_
        refine z_ifb_eq (pt := 54) dX8_lamp_42 (by decide) rfl (fun c => ?_) (fun c => ?_)
        · have h := zif h (by rw [c]; exact Bool.false_ne_true)
          refine z_iconst (v := (-1 : Int32)) dX8_lamp_54 (by decide) rfl ?_
          exact z_ret (some (.int (-1 : Int32))) (Or.inr (Or.inl ⟨_, _, rfl, rfl, rfl, dX8_lamp_55⟩)) zN200 ⟨_, rfl, h⟩
        · have h := zit h c
          refine z_aload_n (i := 0) dX8_lamp_45 rfl rfl rfl ?_
          refine z_getI (x := s1.1 164 19) rfl f_X8_183 i_164 rfl dX8_lamp_46 rfl ?_
          refine z_bipush (v := (12 : Int32)) dX8_lamp_49 (by decide) rfl ?_
          refine z_icmp_ne (pt := 56) dX8_lamp_51 (by decide) rfl (fun c => ?_) (fun c => ?_)
          · have h := zif h c
            refine z_aload_n (i := 0) dX8_lamp_56 rfl rfl rfl ?_
            refine z_getR (q := 180) f_X8_55 i_164 rfl (r_164_15 (zRok_of hRs1 hR)) (by decide) dX8_lamp_57 rfl ?_
            refine z_aload_n (i := 0) dX8_lamp_60 rfl rfl rfl ?_
            refine z_getI (x := s1.1 164 19) rfl f_X8_183 i_164 rfl dX8_lamp_61 rfl ?_
            refine z_iload_n (i := 3) dX8_lamp_64 rfl rfl rfl ?_
            obtain ⟨a3, h⟩ := h
            have wa3 := vin a3
            refine z_iast a_180 a3 dX8_lamp_65 rfl ?_
            show zt l g (d + 1) M_X8_lamp 66 [.ref 164, .int p0, .int p1, .int p2, .int p3] [] (zI s1 180 ((s1.1 164 19).toNatClampNeg) p2) _
            refine z_aload_n (i := 0) dX8_lamp_66 rfl rfl rfl ?_
            refine z_getR (q := 181) f_X8_58 i_164 rfl (r_164_16 (zRok_of hRs1 hR)) (by decide) dX8_lamp_67 rfl ?_
            refine z_aload_n (i := 0) dX8_lamp_70 rfl rfl rfl ?_
            refine z_getI (x := s1.1 164 19) (zI_o (by decide)) f_X8_183 i_164 rfl dX8_lamp_71 rfl ?_
            refine z_iload dX8_lamp_74 rfl rfl ?_
            obtain ⟨a4, h⟩ := h
            have wa4 := vin a4
            refine z_iast a_181 a4 dX8_lamp_76 rfl ?_
            show zt l g (d + 1) M_X8_lamp 77 [.ref 164, .int p0, .int p1, .int p2, .int p3] [] (zI (zI s1 180 ((s1.1 164 19).toNatClampNeg) p2) 181 ((s1.1 164 19).toNatClampNeg) p3) _
            refine z_aload_n (i := 0) dX8_lamp_77 rfl rfl rfl ?_
            refine z_iconst (v := (3 : Int32)) dX8_lamp_78 (by decide) rfl ?_
            refine z_iconst (v := (0 : Int32)) dX8_lamp_79 (by decide) rfl ?_
            refine z_iload_n (i := 1) dX8_lamp_80 rfl rfl rfl ?_
            refine z_iload_n (i := 2) dX8_lamp_81 rfl rfl rfl ?_
            refine z_callV k_X8_adds m_X8_194 (zRec_of i_164) rfl h rfl (Nat.le_of_ble_eq_true rfl) dX8_lamp_82 zy200 rfl ?_
            rintro v s5 ⟨r6, rfl, hRs5, h⟩
            show zt l g (d + 1) M_X8_lamp 85 [.ref 164, .int p0, .int p1, .int p2, .int p3] [.int r6] s5 _
            exact z_ret (some (.int r6)) (Or.inr (Or.inl ⟨_, _, rfl, rfl, rfl, dX8_lamp_85⟩)) zN200 ⟨_, rfl, h⟩
          · have h := zit h c
            refine z_iconst (v := (-1 : Int32)) dX8_lamp_54 (by decide) rfl ?_
            exact z_ret (some (.int (-1 : Int32))) (Or.inr (Or.inl ⟨_, _, rfl, rfl, rfl, dX8_lamp_55⟩)) zN200 ⟨_, rfl, h⟩
theorem dX8_isAt_0 : decode cX8_isAt 0 = .ok (.aload_n 0, 1) := by decide +kernel
theorem dX8_isAt_1 : decode cX8_isAt 1 = .ok (.aload_n 0, 1) := by decide +kernel
theorem dX8_isAt_2 : decode cX8_isAt 2 = .ok (.getfield 40, 3) := by decide +kernel
theorem dX8_isAt_5 : decode cX8_isAt 5 = .ok (.iload_n 1, 1) := by decide +kernel
theorem dX8_isAt_6 : decode cX8_isAt 6 = .ok (.iaload, 1) := by decide +kernel
theorem dX8_isAt_7 : decode cX8_isAt 7 = .ok (.putfield 207, 3) := by decide +kernel
theorem dX8_isAt_10 : decode cX8_isAt 10 = .ok (.aload_n 0, 1) := by decide +kernel
theorem dX8_isAt_11 : decode cX8_isAt 11 = .ok (.aload_n 0, 1) := by decide +kernel
theorem dX8_isAt_12 : decode cX8_isAt 12 = .ok (.getfield 43, 3) := by decide +kernel
theorem dX8_isAt_15 : decode cX8_isAt 15 = .ok (.iload_n 1, 1) := by decide +kernel
theorem dX8_isAt_16 : decode cX8_isAt 16 = .ok (.iaload, 1) := by decide +kernel
theorem dX8_isAt_17 : decode cX8_isAt 17 = .ok (.putfield 210, 3) := by decide +kernel
theorem dX8_isAt_20 : decode cX8_isAt 20 = .ok (.aload_n 0, 1) := by decide +kernel
theorem dX8_isAt_21 : decode cX8_isAt 21 = .ok (.aload_n 0, 1) := by decide +kernel
theorem dX8_isAt_22 : decode cX8_isAt 22 = .ok (.getfield 46, 3) := by decide +kernel
theorem dX8_isAt_25 : decode cX8_isAt 25 = .ok (.iload_n 1, 1) := by decide +kernel
theorem dX8_isAt_26 : decode cX8_isAt 26 = .ok (.iaload, 1) := by decide +kernel
theorem dX8_isAt_27 : decode cX8_isAt 27 = .ok (.putfield 213, 3) := by decide +kernel
theorem dX8_isAt_30 : decode cX8_isAt 30 = .ok (.aload_n 0, 1) := by decide +kernel
theorem dX8_isAt_31 : decode cX8_isAt 31 = .ok (.getfield 31, 3) := by decide +kernel
theorem dX8_isAt_34 : decode cX8_isAt 34 = .ok (.iload_n 1, 1) := by decide +kernel
theorem dX8_isAt_35 : decode cX8_isAt 35 = .ok (.iaload, 1) := by decide +kernel
theorem dX8_isAt_36 : decode cX8_isAt 36 = .ok (.iconst 3, 1) := by decide +kernel
theorem dX8_isAt_37 : decode cX8_isAt 37 = .ok (.if_icmp .ne 28, 3) := by decide +kernel
theorem dX8_isAt_40 : decode cX8_isAt 40 = .ok (.aload_n 0, 1) := by decide +kernel
theorem dX8_isAt_41 : decode cX8_isAt 41 = .ok (.aload_n 0, 1) := by decide +kernel
theorem dX8_isAt_42 : decode cX8_isAt 42 = .ok (.aload_n 0, 1) := by decide +kernel
theorem dX8_isAt_43 : decode cX8_isAt 43 = .ok (.getfield 207, 3) := by decide +kernel
theorem dX8_isAt_46 : decode cX8_isAt 46 = .ok (.aload_n 0, 1) := by decide +kernel
theorem dX8_isAt_47 : decode cX8_isAt 47 = .ok (.getfield 210, 3) := by decide +kernel
theorem dX8_isAt_50 : decode cX8_isAt 50 = .ok (.invokevirtual 177, 3) := by decide +kernel
theorem dX8_isAt_53 : decode cX8_isAt 53 = .ok (.aload_n 0, 1) := by decide +kernel
theorem dX8_isAt_54 : decode cX8_isAt 54 = .ok (.getfield 46, 3) := by decide +kernel
theorem dX8_isAt_57 : decode cX8_isAt 57 = .ok (.iload_n 1, 1) := by decide +kernel
theorem dX8_isAt_58 : decode cX8_isAt 58 = .ok (.iaload, 1) := by decide +kernel
theorem dX8_isAt_59 : decode cX8_isAt 59 = .ok (.iadd, 1) := by decide +kernel
theorem dX8_isAt_60 : decode cX8_isAt 60 = .ok (.putfield 213, 3) := by decide +kernel
theorem dX8_isAt_63 : decode cX8_isAt 63 = .ok (.iconst 1, 1) := by decide +kernel
theorem dX8_isAt_64 : decode cX8_isAt 64 = .ok (.ireturn, 1) := by decide +kernel
theorem dX8_isAt_65 : decode cX8_isAt 65 = .ok (.iload_n 2, 1) := by decide +kernel
theorem dX8_isAt_66 : decode cX8_isAt 66 = .ok (.i2l, 1) := by decide +kernel
theorem dX8_isAt_67 : decode cX8_isAt 67 = .ok (.aload_n 0, 1) := by decide +kernel
theorem dX8_isAt_68 : decode cX8_isAt 68 = .ok (.getfield 34, 3) := by decide +kernel
theorem dX8_isAt_71 : decode cX8_isAt 71 = .ok (.iload_n 1, 1) := by decide +kernel
theorem dX8_isAt_72 : decode cX8_isAt 72 = .ok (.iaload, 1) := by decide +kernel
theorem dX8_isAt_73 : decode cX8_isAt 73 = .ok (.i2l, 1) := by decide +kernel
theorem dX8_isAt_74 : decode cX8_isAt 74 = .ok (.aload_n 0, 1) := by decide +kernel
theorem dX8_isAt_75 : decode cX8_isAt 75 = .ok (.getfield 37, 3) := by decide +kernel
theorem dX8_isAt_78 : decode cX8_isAt 78 = .ok (.iload_n 1, 1) := by decide +kernel
theorem dX8_isAt_79 : decode cX8_isAt 79 = .ok (.iaload, 1) := by decide +kernel
theorem dX8_isAt_80 : decode cX8_isAt 80 = .ok (.i2l, 1) := by decide +kernel
theorem dX8_isAt_81 : decode cX8_isAt 81 = .ok (.invokestatic 147, 3) := by decide +kernel
theorem dX8_isAt_84 : decode cX8_isAt 84 = .ok (.ifCond .ne 5, 3) := by decide +kernel
theorem dX8_isAt_87 : decode cX8_isAt 87 = .ok (.iconst 0, 1) := by decide +kernel
theorem dX8_isAt_88 : decode cX8_isAt 88 = .ok (.ireturn, 1) := by decide +kernel
theorem dX8_isAt_89 : decode cX8_isAt 89 = .ok (.iload_n 2, 1) := by decide +kernel
theorem dX8_isAt_90 : decode cX8_isAt 90 = .ok (.aload_n 0, 1) := by decide +kernel
theorem dX8_isAt_91 : decode cX8_isAt 91 = .ok (.getfield 34, 3) := by decide +kernel
theorem dX8_isAt_94 : decode cX8_isAt 94 = .ok (.iload_n 1, 1) := by decide +kernel
theorem dX8_isAt_95 : decode cX8_isAt 95 = .ok (.iaload, 1) := by decide +kernel
theorem dX8_isAt_96 : decode cX8_isAt 96 = .ok (.isub, 1) := by decide +kernel
theorem dX8_isAt_97 : decode cX8_isAt 97 = .ok (.istore_n 3, 1) := by decide +kernel
theorem dX8_isAt_98 : decode cX8_isAt 98 = .ok (.aload_n 0, 1) := by decide +kernel
theorem dX8_isAt_99 : decode cX8_isAt 99 = .ok (.getfield 31, 3) := by decide +kernel
theorem dX8_isAt_102 : decode cX8_isAt 102 = .ok (.iload_n 1, 1) := by decide +kernel
theorem dX8_isAt_103 : decode cX8_isAt 103 = .ok (.iaload, 1) := by decide +kernel
theorem dX8_isAt_104 : decode cX8_isAt 104 = .ok (.iconst 2, 1) := by decide +kernel
theorem dX8_isAt_105 : decode cX8_isAt 105 = .ok (.if_icmp .ne 47, 3) := by decide +kernel
theorem dX8_isAt_108 : decode cX8_isAt 108 = .ok (.aload_n 0, 1) := by decide +kernel
theorem dX8_isAt_109 : decode cX8_isAt 109 = .ok (.aload_n 0, 1) := by decide +kernel
theorem dX8_isAt_110 : decode cX8_isAt 110 = .ok (.getfield 46, 3) := by decide +kernel
theorem dX8_isAt_113 : decode cX8_isAt 113 = .ok (.iload_n 1, 1) := by decide +kernel
theorem dX8_isAt_114 : decode cX8_isAt 114 = .ok (.iaload, 1) := by decide +kernel
theorem dX8_isAt_115 : decode cX8_isAt 115 = .ok (.aload_n 0, 1) := by decide +kernel
theorem dX8_isAt_116 : decode cX8_isAt 116 = .ok (.getfield 49, 3) := by decide +kernel
theorem dX8_isAt_119 : decode cX8_isAt 119 = .ok (.iload_n 1, 1) := by decide +kernel
theorem dX8_isAt_120 : decode cX8_isAt 120 = .ok (.iaload, 1) := by decide +kernel
theorem dX8_isAt_121 : decode cX8_isAt 121 = .ok (.iload_n 3, 1) := by decide +kernel
theorem dX8_isAt_122 : decode cX8_isAt 122 = .ok (.imul, 1) := by decide +kernel
theorem dX8_isAt_123 : decode cX8_isAt 123 = .ok (.isub, 1) := by decide +kernel
theorem dX8_isAt_124 : decode cX8_isAt 124 = .ok (.putfield 213, 3) := by decide +kernel
theorem dX8_isAt_127 : decode cX8_isAt 127 = .ok (.aload_n 0, 1) := by decide +kernel
theorem dX8_isAt_128 : decode cX8_isAt 128 = .ok (.getfield 213, 3) := by decide +kernel
theorem dX8_isAt_131 : decode cX8_isAt 131 = .ok (.aload_n 0, 1) := by decide +kernel
theorem dX8_isAt_132 : decode cX8_isAt 132 = .ok (.aload_n 0, 1) := by decide +kernel
theorem dX8_isAt_133 : decode cX8_isAt 133 = .ok (.getfield 207, 3) := by decide +kernel
theorem dX8_isAt_136 : decode cX8_isAt 136 = .ok (.aload_n 0, 1) := by decide +kernel
theorem dX8_isAt_137 : decode cX8_isAt 137 = .ok (.getfield 210, 3) := by decide +kernel
theorem dX8_isAt_140 : decode cX8_isAt 140 = .ok (.invokevirtual 177, 3) := by decide +kernel
theorem dX8_isAt_143 : decode cX8_isAt 143 = .ok (.if_icmp .le 7, 3) := by decide +kernel
theorem dX8_isAt_146 : decode cX8_isAt 146 = .ok (.iconst 1, 1) := by decide +kernel
theorem dX8_isAt_147 : decode cX8_isAt 147 = .ok (.goto 4, 3) := by decide +kernel
theorem dX8_isAt_150 : decode cX8_isAt 150 = .ok (.iconst 0, 1) := by decide +kernel
theorem dX8_isAt_151 : decode cX8_isAt 151 = .ok (.ireturn, 1) := by decide +kernel
theorem dX8_isAt_152 : decode cX8_isAt 152 = .ok (.aload_n 0, 1) := by decide +kernel
theorem dX8_isAt_153 : decode cX8_isAt 153 = .ok (.getfield 31, 3) := by decide +kernel
theorem dX8_isAt_156 : decode cX8_isAt 156 = .ok (.iload_n 1, 1) := by decide +kernel
theorem dX8_isAt_157 : decode cX8_isAt 157 = .ok (.iaload, 1) := by decide +kernel
theorem dX8_isAt_158 : decode cX8_isAt 158 = .ok (.iconst 1, 1) := by decide +kernel
theorem dX8_isAt_159 : decode cX8_isAt 159 = .ok (.if_icmp .ne 7, 3) := by decide +kernel
theorem dX8_isAt_162 : decode cX8_isAt 162 = .ok (.iconst 4, 1) := by decide +kernel
theorem dX8_isAt_163 : decode cX8_isAt 163 = .ok (.goto 19, 3) := by decide +kernel
theorem dX8_isAt_166 : decode cX8_isAt 166 = .ok (.aload_n 0, 1) := by decide +kernel
theorem dX8_isAt_167 : decode cX8_isAt 167 = .ok (.getfield 31, 3) := by decide +kernel
theorem dX8_isAt_170 : decode cX8_isAt 170 = .ok (.iload_n 1, 1) := by decide +kernel
theorem dX8_isAt_171 : decode cX8_isAt 171 = .ok (.iaload, 1) := by decide +kernel
theorem dX8_isAt_172 : decode cX8_isAt 172 = .ok (.iconst 4, 1) := by decide +kernel
theorem dX8_isAt_173 : decode cX8_isAt 173 = .ok (.if_icmp .ne 8, 3) := by decide +kernel
theorem dX8_isAt_176 : decode cX8_isAt 176 = .ok (.bipush 16, 2) := by decide +kernel
theorem dX8_isAt_178 : decode cX8_isAt 178 = .ok (.goto 4, 3) := by decide +kernel
theorem dX8_isAt_181 : decode cX8_isAt 181 = .ok (.iconst 1, 1) := by decide +kernel
theorem dX8_isAt_182 : decode cX8_isAt 182 = .ok (.istore 4, 2) := by decide +kernel
theorem dX8_isAt_184 : decode cX8_isAt 184 = .ok (.aload_n 0, 1) := by decide +kernel
theorem dX8_isAt_185 : decode cX8_isAt 185 = .ok (.dup, 1) := by decide +kernel
theorem dX8_isAt_186 : decode cX8_isAt 186 = .ok (.getfield 207, 3) := by decide +kernel
theorem dX8_isAt_189 : decode cX8_isAt 189 = .ok (.aload_n 0, 1) := by decide +kernel
theorem dX8_isAt_190 : decode cX8_isAt 190 = .ok (.getfield 49, 3) := by decide +kernel
theorem dX8_isAt_193 : decode cX8_isAt 193 = .ok (.iload_n 1, 1) := by decide +kernel
theorem dX8_isAt_194 : decode cX8_isAt 194 = .ok (.iaload, 1) := by decide +kernel
theorem dX8_isAt_195 : decode cX8_isAt 195 = .ok (.iload_n 3, 1) := by decide +kernel
theorem dX8_isAt_196 : decode cX8_isAt 196 = .ok (.imul, 1) := by decide +kernel
theorem dX8_isAt_197 : decode cX8_isAt 197 = .ok (.iload 4, 2) := by decide +kernel
theorem dX8_isAt_199 : decode cX8_isAt 199 = .ok (.invokestatic 216, 3) := by decide +kernel
theorem dX8_isAt_202 : decode cX8_isAt 202 = .ok (.iadd, 1) := by decide +kernel
theorem dX8_isAt_203 : decode cX8_isAt 203 = .ok (.putfield 207, 3) := by decide +kernel
theorem dX8_isAt_206 : decode cX8_isAt 206 = .ok (.aload_n 0, 1) := by decide +kernel
theorem dX8_isAt_207 : decode cX8_isAt 207 = .ok (.dup, 1) := by decide +kernel
theorem dX8_isAt_208 : decode cX8_isAt 208 = .ok (.getfield 210, 3) := by decide +kernel
theorem dX8_isAt_211 : decode cX8_isAt 211 = .ok (.aload_n 0, 1) := by decide +kernel
theorem dX8_isAt_212 : decode cX8_isAt 212 = .ok (.getfield 52, 3) := by decide +kernel
theorem dX8_isAt_215 : decode cX8_isAt 215 = .ok (.iload_n 1, 1) := by decide +kernel
theorem dX8_isAt_216 : decode cX8_isAt 216 = .ok (.iaload, 1) := by decide +kernel
theorem dX8_isAt_217 : decode cX8_isAt 217 = .ok (.iload_n 3, 1) := by decide +kernel
theorem dX8_isAt_218 : decode cX8_isAt 218 = .ok (.imul, 1) := by decide +kernel
theorem dX8_isAt_219 : decode cX8_isAt 219 = .ok (.iload 4, 2) := by decide +kernel
theorem dX8_isAt_221 : decode cX8_isAt 221 = .ok (.invokestatic 216, 3) := by decide +kernel
theorem dX8_isAt_224 : decode cX8_isAt 224 = .ok (.iadd, 1) := by decide +kernel
theorem dX8_isAt_225 : decode cX8_isAt 225 = .ok (.putfield 210, 3) := by decide +kernel
theorem dX8_isAt_228 : decode cX8_isAt 228 = .ok (.iconst 1, 1) := by decide +kernel
theorem dX8_isAt_229 : decode cX8_isAt 229 = .ok (.ireturn, 1) := by decide +kernel
set_option maxHeartbeats 4000000 in
set_option maxRecDepth 100000 in
theorem t_X8_isAt {l : Launch} {g : zG} {d : Nat} {s : zS} (hR : zRok s) {p0 : Int32} {p1 : Int32} {K : Bool → zS → Prop} (h : (vp_in p0 12 ∧ (vp_in p0 12 ∧ (vp_in p0 12 ∧ (vp_in p0 12 ∧ (if (s.1 172 p0.toNatClampNeg) = (3 : Int32) then (zc l g d M_X8_groundAt [.ref 164, .int (s.1 175 p0.toNatClampNeg), .int (s.1 176 p0.toNatClampNeg)] (zI (zI (zI s 164 20 (s.1 175 p0.toNatClampNeg)) 164 21 (s.1 176 p0.toNatClampNeg)) 164 22 (s.1 177 p0.toNatClampNeg)) (zKi (fun r23 s22 => s22.2.2.1 = s.2.2.1 ∧ (vp_in p0 12 ∧ K true (zI s22 164 22 (r23 + (s22.1 177 p0.toNatClampNeg))))))) else (vp_in p0 12 ∧ (vp_in p0 12 ∧ (if (zinr p1.toInt64 ((s.1 173 p0.toNatClampNeg).toInt64) ((s.1 174 p0.toNatClampNeg).toInt64)) = true then (vp_in p0 12 ∧ (∀ v8 : Int32, v8 = p1 - (s.1 173 p0.toNatClampNeg) → (vp_in p0 12 ∧ (if (s.1 172 p0.toNatClampNeg) = (2 : Int32) then (vp_in p0 12 ∧ (vp_in p0 12 ∧ (zc l g d M_X8_groundAt [.ref 164, .int (s.1 175 p0.toNatClampNeg), .int (s.1 176 p0.toNatClampNeg)] (zI (zI (zI (zI s 164 20 (s.1 175 p0.toNatClampNeg)) 164 21 (s.1 176 p0.toNatClampNeg)) 164 22 (s.1 177 p0.toNatClampNeg)) 164 22 ((s.1 177 p0.toNatClampNeg) - ((s.1 178 p0.toNatClampNeg) * v8))) (zKi (fun r21 s20 => s20.2.2.1 = s.2.2.1 ∧ (if ((s.1 177 p0.toNatClampNeg) - ((s.1 178 p0.toNatClampNeg) * v8)) ≤ r21 then K false s20 else K true s20)))))) else (vp_in p0 12 ∧ (if (s.1 172 p0.toNatClampNeg) = (1 : Int32) then (vp_in p0 12 ∧ (vp_in p0 12 ∧ K true (zI (zI (zI (zI (zI s 164 20 (s.1 175 p0.toNatClampNeg)) 164 21 (s.1 176 p0.toNatClampNeg)) 164 22 (s.1 177 p0.toNatClampNeg)) 164 20 ((s.1 175 p0.toNatClampNeg) + (zfd ((s.1 178 p0.toNatClampNeg) * v8) (4 : Int32)))) 164 21 ((s.1 176 p0.toNatClampNeg) + (zfd ((s.1 179 p0.toNatClampNeg) * v8) (4 : Int32)))))) else (vp_in p0 12 ∧ (if (s.1 172 p0.toNatClampNeg) = (4 : Int32) then (vp_in p0 12 ∧ (vp_in p0 12 ∧ K true (zI (zI (zI (zI (zI s 164 20 (s.1 175 p0.toNatClampNeg)) 164 21 (s.1 176 p0.toNatClampNeg)) 164 22 (s.1 177 p0.toNatClampNeg)) 164 20 ((s.1 175 p0.toNatClampNeg) + (zfd ((s.1 178 p0.toNatClampNeg) * v8) (16 : Int32)))) 164 21 ((s.1 176 p0.toNatClampNeg) + (zfd ((s.1 179 p0.toNatClampNeg) * v8) (16 : Int32)))))) else (vp_in p0 12 ∧ (vp_in p0 12 ∧ K true (zI (zI (zI (zI (zI s 164 20 (s.1 175 p0.toNatClampNeg)) 164 21 (s.1 176 p0.toNatClampNeg)) 164 22 (s.1 177 p0.toNatClampNeg)) 164 20 ((s.1 175 p0.toNatClampNeg) + (zfd ((s.1 178 p0.toNatClampNeg) * v8) (1 : Int32)))) 164 21 ((s.1 176 p0.toNatClampNeg) + (zfd ((s.1 179 p0.toNatClampNeg) * v8) (1 : Int32)))))))))))))) else K false (zI (zI (zI s 164 20 (s.1 175 p0.toNatClampNeg)) 164 21 (s.1 176 p0.toNatClampNeg)) 164 22 (s.1 177 p0.toNatClampNeg))))))))))) : zc l g (d + 1) M_X8_isAt [.ref 164, .int p0, .int p1] s (zKz K) := by
  refine zCall_of k_X8_isAt (Nat.le_of_ble_eq_true rfl) (Nat.le_refl _) (fun _ => ?_)
  show zt l g (d + 1) M_X8_isAt 0 [.ref 164, .int p0, .int p1, zJ, zJ] [] s (zKz K)
  refine z_aload_n (i := 0) dX8_isAt_0 rfl rfl rfl ?_
  refine z_aload_n (i := 0) dX8_isAt_1 rfl rfl rfl ?_
  refine z_getR (q := 175) f_X8_40 i_164 rfl (r_164_10 hR) (by decide) dX8_isAt_2 rfl ?_
  refine z_iload_n (i := 1) dX8_isAt_5 rfl rfl rfl ?_
  obtain ⟨a1, h⟩ := h
  have wa1 := vin a1
  refine z_iald (x := s.1 175 p0.toNatClampNeg) rfl a_175 a1 dX8_isAt_6 rfl ?_
  refine z_putI f_X8_207 i_164 rfl (Or.inl rfl) rfl rfl dX8_isAt_7 rfl ?_
  refine z_aload_n (i := 0) dX8_isAt_10 rfl rfl rfl ?_
  refine z_aload_n (i := 0) dX8_isAt_11 rfl rfl rfl ?_
  refine z_getR (q := 176) f_X8_43 i_164 rfl (r_164_11 hR) (by decide) dX8_isAt_12 rfl ?_
  refine z_iload_n (i := 1) dX8_isAt_15 rfl rfl rfl ?_
  obtain ⟨a2, h⟩ := h
  have wa2 := vin a2
  refine z_iald (x := s.1 176 p0.toNatClampNeg) (zI_o (by decide)) a_176 a2 dX8_isAt_16 rfl ?_
  refine z_putI f_X8_210 i_164 rfl (Or.inl rfl) rfl rfl dX8_isAt_17 rfl ?_
  refine z_aload_n (i := 0) dX8_isAt_20 rfl rfl rfl ?_
  refine z_aload_n (i := 0) dX8_isAt_21 rfl rfl rfl ?_
  refine z_getR (q := 177) f_X8_46 i_164 rfl (r_164_12 hR) (by decide) dX8_isAt_22 rfl ?_
  refine z_iload_n (i := 1) dX8_isAt_25 rfl rfl rfl ?_
  obtain ⟨a3, h⟩ := h
  have wa3 := vin a3
  refine z_iald (x := s.1 177 p0.toNatClampNeg) ((zI_o (by decide)).trans (zI_o (by decide))) a_177 a3 dX8_isAt_26 rfl ?_
  refine z_putI f_X8_213 i_164 rfl (Or.inl rfl) rfl rfl dX8_isAt_27 rfl ?_
  refine z_aload_n (i := 0) dX8_isAt_30 rfl rfl rfl ?_
  refine z_getR (q := 172) f_X8_31 i_164 rfl (r_164_7 hR) (by decide) dX8_isAt_31 rfl ?_
  refine z_iload_n (i := 1) dX8_isAt_34 rfl rfl rfl ?_
  obtain ⟨a4, h⟩ := h
  have wa4 := vin a4
  refine z_iald (x := s.1 172 p0.toNatClampNeg) ((zI_o (by decide)).trans ((zI_o (by decide)).trans (zI_o (by decide)))) a_172 a4 dX8_isAt_35 rfl ?_
  refine z_iconst (v := (3 : Int32)) dX8_isAt_36 (by decide) rfl ?_
  refine z_icmp_ne (pt := 65) dX8_isAt_37 (by decide) rfl (fun c => ?_) (fun c => ?_)
  · have h := zif h c
    refine z_iload_n (i := 2) dX8_isAt_65 rfl rfl rfl ?_
    refine z_i2l dX8_isAt_66 rfl ?_
    refine z_aload_n (i := 0) dX8_isAt_67 rfl rfl rfl ?_
    refine z_getR (q := 173) f_X8_34 i_164 rfl (r_164_8 hR) (by decide) dX8_isAt_68 rfl ?_
    refine z_iload_n (i := 1) dX8_isAt_71 rfl rfl rfl ?_
    obtain ⟨a5, h⟩ := h
    have wa5 := vin a5
    refine z_iald (x := s.1 173 p0.toNatClampNeg) ((zI_o (by decide)).trans ((zI_o (by decide)).trans (zI_o (by decide)))) a_173 a5 dX8_isAt_72 rfl ?_
    refine z_i2l dX8_isAt_73 rfl ?_
    refine z_aload_n (i := 0) dX8_isAt_74 rfl rfl rfl ?_
    refine z_getR (q := 174) f_X8_37 i_164 rfl (r_164_9 hR) (by decide) dX8_isAt_75 rfl ?_
    refine z_iload_n (i := 1) dX8_isAt_78 rfl rfl rfl ?_
    obtain ⟨a6, h⟩ := h
    have wa6 := vin a6
    refine z_iald (x := s.1 174 p0.toNatClampNeg) ((zI_o (by decide)).trans ((zI_o (by decide)).trans (zI_o (by decide)))) a_174 a6 dX8_isAt_79 rfl ?_
    refine z_i2l dX8_isAt_80 rfl ?_
    refine z_in m_X8_147 dX8_isAt_81 (Nat.le_of_ble_eq_true rfl) rfl ?_
    refine z_ifb_ne (pt := 89) dX8_isAt_84 (by decide) rfl (fun c => ?_) (fun c => ?_)
    · have h := zit h c
      refine z_iload_n (i := 2) dX8_isAt_89 rfl rfl rfl ?_
      refine z_aload_n (i := 0) dX8_isAt_90 rfl rfl rfl ?_
      refine z_getR (q := 173) f_X8_34 i_164 rfl (r_164_8 hR) (by decide) dX8_isAt_91 rfl ?_
      refine z_iload_n (i := 1) dX8_isAt_94 rfl rfl rfl ?_
      obtain ⟨a7, h⟩ := h
      have wa7 := vin a7
      refine z_iald (x := s.1 173 p0.toNatClampNeg) ((zI_o (by decide)).trans ((zI_o (by decide)).trans (zI_o (by decide)))) a_173 a7 dX8_isAt_95 rfl ?_
      refine z_isub dX8_isAt_96 rfl ?_
      refine z_istore_n (i := 3) dX8_isAt_97 rfl (by decide) (zokd rfl) rfl ?_
      obtain ⟨v8, ev8⟩ : ∃ x : Int32, x = p1 - (s.1 173 p0.toNatClampNeg) := ⟨_, rfl⟩
      rw [← ev8]
      have h := h v8 ev8
      show zt l g (d + 1) M_X8_isAt 98 [.ref 164, .int p0, .int p1, .int v8, zJ] [] (zI (zI (zI s 164 20 (s.1 175 p0.toNatClampNeg)) 164 21 (s.1 176 p0.toNatClampNeg)) 164 22 (s.1 177 p0.toNatClampNeg)) _
      refine z_aload_n (i := 0) dX8_isAt_98 rfl rfl rfl ?_
      refine z_getR (q := 172) f_X8_31 i_164 rfl (r_164_7 hR) (by decide) dX8_isAt_99 rfl ?_
      refine z_iload_n (i := 1) dX8_isAt_102 rfl rfl rfl ?_
      obtain ⟨a9, h⟩ := h
      have wa9 := vin a9
      refine z_iald (x := s.1 172 p0.toNatClampNeg) ((zI_o (by decide)).trans ((zI_o (by decide)).trans (zI_o (by decide)))) a_172 a9 dX8_isAt_103 rfl ?_
      refine z_iconst (v := (2 : Int32)) dX8_isAt_104 (by decide) rfl ?_
      refine z_icmp_ne (pt := 152) dX8_isAt_105 (by decide) rfl (fun c => ?_) (fun c => ?_)
      · have h := zif h c
        refine z_aload_n (i := 0) dX8_isAt_152 rfl rfl rfl ?_
        refine z_getR (q := 172) f_X8_31 i_164 rfl (r_164_7 hR) (by decide) dX8_isAt_153 rfl ?_
        refine z_iload_n (i := 1) dX8_isAt_156 rfl rfl rfl ?_
        obtain ⟨a10, h⟩ := h
        have wa10 := vin a10
        refine z_iald (x := s.1 172 p0.toNatClampNeg) ((zI_o (by decide)).trans ((zI_o (by decide)).trans (zI_o (by decide)))) a_172 a10 dX8_isAt_157 rfl ?_
        refine z_iconst (v := (1 : Int32)) dX8_isAt_158 (by decide) rfl ?_
        refine z_icmp_ne (pt := 166) dX8_isAt_159 (by decide) rfl (fun c => ?_) (fun c => ?_)
        · have h := zif h c
          refine z_aload_n (i := 0) dX8_isAt_166 rfl rfl rfl ?_
          refine z_getR (q := 172) f_X8_31 i_164 rfl (r_164_7 hR) (by decide) dX8_isAt_167 rfl ?_
          refine z_iload_n (i := 1) dX8_isAt_170 rfl rfl rfl ?_
          obtain ⟨a11, h⟩ := h
          have wa11 := vin a11
          refine z_iald (x := s.1 172 p0.toNatClampNeg) ((zI_o (by decide)).trans ((zI_o (by decide)).trans (zI_o (by decide)))) a_172 a11 dX8_isAt_171 rfl ?_
          refine z_iconst (v := (4 : Int32)) dX8_isAt_172 (by decide) rfl ?_
          refine z_icmp_ne (pt := 181) dX8_isAt_173 (by decide) rfl (fun c => ?_) (fun c => ?_)
          · have h := zif h c
            refine z_iconst (v := (1 : Int32)) dX8_isAt_181 (by decide) rfl ?_
            refine z_istore dX8_isAt_182 (by decide) (zokd rfl) rfl ?_
            show zt l g (d + 1) M_X8_isAt 184 [.ref 164, .int p0, .int p1, .int v8, .int (1 : Int32)] [] (zI (zI (zI s 164 20 (s.1 175 p0.toNatClampNeg)) 164 21 (s.1 176 p0.toNatClampNeg)) 164 22 (s.1 177 p0.toNatClampNeg)) _
            refine z_aload_n (i := 0) dX8_isAt_184 rfl rfl rfl ?_
            refine z_dup dX8_isAt_185 rfl rfl ?_
            refine z_getI (x := s.1 175 p0.toNatClampNeg) ((zI_k (by decide)).trans ((zI_k (by decide)).trans zI_eq)) f_X8_207 i_164 rfl dX8_isAt_186 rfl ?_
            refine z_aload_n (i := 0) dX8_isAt_189 rfl rfl rfl ?_
            refine z_getR (q := 178) f_X8_49 i_164 rfl (r_164_13 hR) (by decide) dX8_isAt_190 rfl ?_
            refine z_iload_n (i := 1) dX8_isAt_193 rfl rfl rfl ?_
            obtain ⟨a12, h⟩ := h
            have wa12 := vin a12
            refine z_iald (x := s.1 178 p0.toNatClampNeg) ((zI_o (by decide)).trans ((zI_o (by decide)).trans (zI_o (by decide)))) a_178 a12 dX8_isAt_194 rfl ?_
            refine z_iload_n (i := 3) dX8_isAt_195 rfl rfl rfl ?_
            refine z_imul dX8_isAt_196 rfl ?_
            refine z_iload dX8_isAt_197 rfl rfl ?_
            refine z_fdiv m_X8_216 (by decide) dX8_isAt_199 (Nat.le_of_ble_eq_true rfl) rfl ?_
            refine z_iadd dX8_isAt_202 rfl ?_
            refine z_putI f_X8_207 i_164 rfl (Or.inl rfl) rfl rfl dX8_isAt_203 rfl ?_
            refine z_aload_n (i := 0) dX8_isAt_206 rfl rfl rfl ?_
            refine z_dup dX8_isAt_207 rfl rfl ?_
            refine z_getI (x := s.1 176 p0.toNatClampNeg) ((zI_k (by decide)).trans ((zI_k (by decide)).trans zI_eq)) f_X8_210 i_164 rfl dX8_isAt_208 rfl ?_
            refine z_aload_n (i := 0) dX8_isAt_211 rfl rfl rfl ?_
            refine z_getR (q := 179) f_X8_52 i_164 rfl (r_164_14 hR) (by decide) dX8_isAt_212 rfl ?_
            refine z_iload_n (i := 1) dX8_isAt_215 rfl rfl rfl ?_
            obtain ⟨a13, h⟩ := h
            have wa13 := vin a13
            refine z_iald (x := s.1 179 p0.toNatClampNeg) ((zI_o (by decide)).trans ((zI_o (by decide)).trans ((zI_o (by decide)).trans (zI_o (by decide))))) a_179 a13 dX8_isAt_216 rfl ?_
            refine z_iload_n (i := 3) dX8_isAt_217 rfl rfl rfl ?_
            refine z_imul dX8_isAt_218 rfl ?_
            refine z_iload dX8_isAt_219 rfl rfl ?_
            refine z_fdiv m_X8_216 (by decide) dX8_isAt_221 (Nat.le_of_ble_eq_true rfl) rfl ?_
            refine z_iadd dX8_isAt_224 rfl ?_
            refine z_putI f_X8_210 i_164 rfl (Or.inl rfl) rfl rfl dX8_isAt_225 rfl ?_
            refine z_iconst (v := (1 : Int32)) dX8_isAt_228 (by decide) rfl ?_
            exact z_ret (some (.int (zb true))) (Or.inr (Or.inl ⟨_, _, rfl, rfl, zb_nar _, dX8_isAt_229⟩)) zN200 ⟨_, rfl, h⟩
          · have h := zit h c
            refine z_bipush (v := (16 : Int32)) dX8_isAt_176 (by decide) rfl ?_
            refine z_goto (pn := 182) dX8_isAt_178 (by decide) ?_
            refine z_istore dX8_isAt_182 (by decide) (zokd rfl) rfl ?_
            show zt l g (d + 1) M_X8_isAt 184 [.ref 164, .int p0, .int p1, .int v8, .int (16 : Int32)] [] (zI (zI (zI s 164 20 (s.1 175 p0.toNatClampNeg)) 164 21 (s.1 176 p0.toNatClampNeg)) 164 22 (s.1 177 p0.toNatClampNeg)) _
            refine z_aload_n (i := 0) dX8_isAt_184 rfl rfl rfl ?_
            refine z_dup dX8_isAt_185 rfl rfl ?_
            refine z_getI (x := s.1 175 p0.toNatClampNeg) ((zI_k (by decide)).trans ((zI_k (by decide)).trans zI_eq)) f_X8_207 i_164 rfl dX8_isAt_186 rfl ?_
            refine z_aload_n (i := 0) dX8_isAt_189 rfl rfl rfl ?_
            refine z_getR (q := 178) f_X8_49 i_164 rfl (r_164_13 hR) (by decide) dX8_isAt_190 rfl ?_
            refine z_iload_n (i := 1) dX8_isAt_193 rfl rfl rfl ?_
            obtain ⟨a14, h⟩ := h
            have wa14 := vin a14
            refine z_iald (x := s.1 178 p0.toNatClampNeg) ((zI_o (by decide)).trans ((zI_o (by decide)).trans (zI_o (by decide)))) a_178 a14 dX8_isAt_194 rfl ?_
            refine z_iload_n (i := 3) dX8_isAt_195 rfl rfl rfl ?_
            refine z_imul dX8_isAt_196 rfl ?_
            refine z_iload dX8_isAt_197 rfl rfl ?_
            refine z_fdiv m_X8_216 (by decide) dX8_isAt_199 (Nat.le_of_ble_eq_true rfl) rfl ?_
            refine z_iadd dX8_isAt_202 rfl ?_
            refine z_putI f_X8_207 i_164 rfl (Or.inl rfl) rfl rfl dX8_isAt_203 rfl ?_
            refine z_aload_n (i := 0) dX8_isAt_206 rfl rfl rfl ?_
            refine z_dup dX8_isAt_207 rfl rfl ?_
            refine z_getI (x := s.1 176 p0.toNatClampNeg) ((zI_k (by decide)).trans ((zI_k (by decide)).trans zI_eq)) f_X8_210 i_164 rfl dX8_isAt_208 rfl ?_
            refine z_aload_n (i := 0) dX8_isAt_211 rfl rfl rfl ?_
            refine z_getR (q := 179) f_X8_52 i_164 rfl (r_164_14 hR) (by decide) dX8_isAt_212 rfl ?_
            refine z_iload_n (i := 1) dX8_isAt_215 rfl rfl rfl ?_
            obtain ⟨a15, h⟩ := h
            have wa15 := vin a15
            refine z_iald (x := s.1 179 p0.toNatClampNeg) ((zI_o (by decide)).trans ((zI_o (by decide)).trans ((zI_o (by decide)).trans (zI_o (by decide))))) a_179 a15 dX8_isAt_216 rfl ?_
            refine z_iload_n (i := 3) dX8_isAt_217 rfl rfl rfl ?_
            refine z_imul dX8_isAt_218 rfl ?_
            refine z_iload dX8_isAt_219 rfl rfl ?_
            refine z_fdiv m_X8_216 (by decide) dX8_isAt_221 (Nat.le_of_ble_eq_true rfl) rfl ?_
            refine z_iadd dX8_isAt_224 rfl ?_
            refine z_putI f_X8_210 i_164 rfl (Or.inl rfl) rfl rfl dX8_isAt_225 rfl ?_
            refine z_iconst (v := (1 : Int32)) dX8_isAt_228 (by decide) rfl ?_
            exact z_ret (some (.int (zb true))) (Or.inr (Or.inl ⟨_, _, rfl, rfl, zb_nar _, dX8_isAt_229⟩)) zN200 ⟨_, rfl, h⟩
        · have h := zit h c
          refine z_iconst (v := (4 : Int32)) dX8_isAt_162 (by decide) rfl ?_
          refine z_goto (pn := 182) dX8_isAt_163 (by decide) ?_
          refine z_istore dX8_isAt_182 (by decide) (zokd rfl) rfl ?_
          show zt l g (d + 1) M_X8_isAt 184 [.ref 164, .int p0, .int p1, .int v8, .int (4 : Int32)] [] (zI (zI (zI s 164 20 (s.1 175 p0.toNatClampNeg)) 164 21 (s.1 176 p0.toNatClampNeg)) 164 22 (s.1 177 p0.toNatClampNeg)) _
          refine z_aload_n (i := 0) dX8_isAt_184 rfl rfl rfl ?_
          refine z_dup dX8_isAt_185 rfl rfl ?_
          refine z_getI (x := s.1 175 p0.toNatClampNeg) ((zI_k (by decide)).trans ((zI_k (by decide)).trans zI_eq)) f_X8_207 i_164 rfl dX8_isAt_186 rfl ?_
          refine z_aload_n (i := 0) dX8_isAt_189 rfl rfl rfl ?_
          refine z_getR (q := 178) f_X8_49 i_164 rfl (r_164_13 hR) (by decide) dX8_isAt_190 rfl ?_
          refine z_iload_n (i := 1) dX8_isAt_193 rfl rfl rfl ?_
          obtain ⟨a16, h⟩ := h
          have wa16 := vin a16
          refine z_iald (x := s.1 178 p0.toNatClampNeg) ((zI_o (by decide)).trans ((zI_o (by decide)).trans (zI_o (by decide)))) a_178 a16 dX8_isAt_194 rfl ?_
          refine z_iload_n (i := 3) dX8_isAt_195 rfl rfl rfl ?_
          refine z_imul dX8_isAt_196 rfl ?_
          refine z_iload dX8_isAt_197 rfl rfl ?_
          refine z_fdiv m_X8_216 (by decide) dX8_isAt_199 (Nat.le_of_ble_eq_true rfl) rfl ?_
          refine z_iadd dX8_isAt_202 rfl ?_
          refine z_putI f_X8_207 i_164 rfl (Or.inl rfl) rfl rfl dX8_isAt_203 rfl ?_
          refine z_aload_n (i := 0) dX8_isAt_206 rfl rfl rfl ?_
          refine z_dup dX8_isAt_207 rfl rfl ?_
          refine z_getI (x := s.1 176 p0.toNatClampNeg) ((zI_k (by decide)).trans ((zI_k (by decide)).trans zI_eq)) f_X8_210 i_164 rfl dX8_isAt_208 rfl ?_
          refine z_aload_n (i := 0) dX8_isAt_211 rfl rfl rfl ?_
          refine z_getR (q := 179) f_X8_52 i_164 rfl (r_164_14 hR) (by decide) dX8_isAt_212 rfl ?_
          refine z_iload_n (i := 1) dX8_isAt_215 rfl rfl rfl ?_
          obtain ⟨a17, h⟩ := h
          have wa17 := vin a17
          refine z_iald (x := s.1 179 p0.toNatClampNeg) ((zI_o (by decide)).trans ((zI_o (by decide)).trans ((zI_o (by decide)).trans (zI_o (by decide))))) a_179 a17 dX8_isAt_216 rfl ?_
          refine z_iload_n (i := 3) dX8_isAt_217 rfl rfl rfl ?_
          refine z_imul dX8_isAt_218 rfl ?_
          refine z_iload dX8_isAt_219 rfl rfl ?_
          refine z_fdiv m_X8_216 (by decide) dX8_isAt_221 (Nat.le_of_ble_eq_true rfl) rfl ?_
          refine z_iadd dX8_isAt_224 rfl ?_
          refine z_putI f_X8_210 i_164 rfl (Or.inl rfl) rfl rfl dX8_isAt_225 rfl ?_
          refine z_iconst (v := (1 : Int32)) dX8_isAt_228 (by decide) rfl ?_
          exact z_ret (some (.int (zb true))) (Or.inr (Or.inl ⟨_, _, rfl, rfl, zb_nar _, dX8_isAt_229⟩)) zN200 ⟨_, rfl, h⟩
      · have h := zit h c
        refine z_aload_n (i := 0) dX8_isAt_108 rfl rfl rfl ?_
        refine z_aload_n (i := 0) dX8_isAt_109 rfl rfl rfl ?_
        refine z_getR (q := 177) f_X8_46 i_164 rfl (r_164_12 hR) (by decide) dX8_isAt_110 rfl ?_
        refine z_iload_n (i := 1) dX8_isAt_113 rfl rfl rfl ?_
        obtain ⟨a18, h⟩ := h
        have wa18 := vin a18
        refine z_iald (x := s.1 177 p0.toNatClampNeg) ((zI_o (by decide)).trans ((zI_o (by decide)).trans (zI_o (by decide)))) a_177 a18 dX8_isAt_114 rfl ?_
        refine z_aload_n (i := 0) dX8_isAt_115 rfl rfl rfl ?_
        refine z_getR (q := 178) f_X8_49 i_164 rfl (r_164_13 hR) (by decide) dX8_isAt_116 rfl ?_
        refine z_iload_n (i := 1) dX8_isAt_119 rfl rfl rfl ?_
        obtain ⟨a19, h⟩ := h
        have wa19 := vin a19
        refine z_iald (x := s.1 178 p0.toNatClampNeg) ((zI_o (by decide)).trans ((zI_o (by decide)).trans (zI_o (by decide)))) a_178 a19 dX8_isAt_120 rfl ?_
        refine z_iload_n (i := 3) dX8_isAt_121 rfl rfl rfl ?_
        refine z_imul dX8_isAt_122 rfl ?_
        refine z_isub dX8_isAt_123 rfl ?_
        refine z_putI f_X8_213 i_164 rfl (Or.inl rfl) rfl rfl dX8_isAt_124 rfl ?_
        refine z_aload_n (i := 0) dX8_isAt_127 rfl rfl rfl ?_
        refine z_getI (x := (s.1 177 p0.toNatClampNeg) - ((s.1 178 p0.toNatClampNeg) * v8)) zI_eq f_X8_213 i_164 rfl dX8_isAt_128 rfl ?_
        refine z_aload_n (i := 0) dX8_isAt_131 rfl rfl rfl ?_
        refine z_aload_n (i := 0) dX8_isAt_132 rfl rfl rfl ?_
        refine z_getI (x := s.1 175 p0.toNatClampNeg) ((zI_k (by decide)).trans ((zI_k (by decide)).trans ((zI_k (by decide)).trans zI_eq))) f_X8_207 i_164 rfl dX8_isAt_133 rfl ?_
        refine z_aload_n (i := 0) dX8_isAt_136 rfl rfl rfl ?_
        refine z_getI (x := s.1 176 p0.toNatClampNeg) ((zI_k (by decide)).trans ((zI_k (by decide)).trans zI_eq)) f_X8_210 i_164 rfl dX8_isAt_137 rfl ?_
        refine z_callV k_X8_groundAt m_X8_177 (zRec_of i_164) rfl h rfl (Nat.le_of_ble_eq_true rfl) dX8_isAt_140 zy200 rfl ?_
        rintro v s20 ⟨r21, rfl, hRs20, h⟩
        show zt l g (d + 1) M_X8_isAt 143 [.ref 164, .int p0, .int p1, .int v8, zJ] [.int r21, .int ((s.1 177 p0.toNatClampNeg) - ((s.1 178 p0.toNatClampNeg) * v8))] s20 _
        refine z_icmp_le (pt := 150) dX8_isAt_143 (by decide) rfl (fun c => ?_) (fun c => ?_)
        · have h := zit h c
          refine z_iconst (v := (0 : Int32)) dX8_isAt_150 (by decide) rfl ?_
          exact z_ret (some (.int (zb false))) (Or.inr (Or.inl ⟨_, _, rfl, rfl, zb_nar _, dX8_isAt_151⟩)) zN200 ⟨_, rfl, h⟩
        · have h := zif h c
          refine z_iconst (v := (1 : Int32)) dX8_isAt_146 (by decide) rfl ?_
          refine z_goto (pn := 151) dX8_isAt_147 (by decide) ?_
          exact z_ret (some (.int (zb true))) (Or.inr (Or.inl ⟨_, _, rfl, rfl, zb_nar _, dX8_isAt_151⟩)) zN200 ⟨_, rfl, h⟩
    · have h := zif h (by rw [c]; exact Bool.false_ne_true)
      refine z_iconst (v := (0 : Int32)) dX8_isAt_87 (by decide) rfl ?_
      exact z_ret (some (.int (zb false))) (Or.inr (Or.inl ⟨_, _, rfl, rfl, zb_nar _, dX8_isAt_88⟩)) zN200 ⟨_, rfl, h⟩
  · have h := zit h c
    refine z_aload_n (i := 0) dX8_isAt_40 rfl rfl rfl ?_
    refine z_aload_n (i := 0) dX8_isAt_41 rfl rfl rfl ?_
    refine z_aload_n (i := 0) dX8_isAt_42 rfl rfl rfl ?_
    refine z_getI (x := s.1 175 p0.toNatClampNeg) ((zI_k (by decide)).trans ((zI_k (by decide)).trans zI_eq)) f_X8_207 i_164 rfl dX8_isAt_43 rfl ?_
    refine z_aload_n (i := 0) dX8_isAt_46 rfl rfl rfl ?_
    refine z_getI (x := s.1 176 p0.toNatClampNeg) ((zI_k (by decide)).trans zI_eq) f_X8_210 i_164 rfl dX8_isAt_47 rfl ?_
    refine z_callV k_X8_groundAt m_X8_177 (zRec_of i_164) rfl h rfl (Nat.le_of_ble_eq_true rfl) dX8_isAt_50 zy200 rfl ?_
    rintro v s22 ⟨r23, rfl, hRs22, h⟩
    show zt l g (d + 1) M_X8_isAt 53 [.ref 164, .int p0, .int p1, zJ, zJ] [.int r23, .ref 164] s22 _
    refine z_aload_n (i := 0) dX8_isAt_53 rfl rfl rfl ?_
    refine z_getR (q := 177) f_X8_46 i_164 rfl (r_164_12 (zRok_of hRs22 hR)) (by decide) dX8_isAt_54 rfl ?_
    refine z_iload_n (i := 1) dX8_isAt_57 rfl rfl rfl ?_
    obtain ⟨a24, h⟩ := h
    have wa24 := vin a24
    refine z_iald (x := s22.1 177 p0.toNatClampNeg) rfl a_177 a24 dX8_isAt_58 rfl ?_
    refine z_iadd dX8_isAt_59 rfl ?_
    refine z_putI f_X8_213 i_164 rfl (Or.inl rfl) rfl rfl dX8_isAt_60 rfl ?_
    refine z_iconst (v := (1 : Int32)) dX8_isAt_63 (by decide) rfl ?_
    exact z_ret (some (.int (zb true))) (Or.inr (Or.inl ⟨_, _, rfl, rfl, zb_nar _, dX8_isAt_64⟩)) zN200 ⟨_, rfl, h⟩
theorem dX8_isThing_0 : decode cX8_isThing 0 = .ok (.iload_n 1, 1) := by decide +kernel
theorem dX8_isThing_1 : decode cX8_isThing 1 = .ok (.i2l, 1) := by decide +kernel
theorem dX8_isThing_2 : decode cX8_isThing 2 = .ok (.lconst 0, 1) := by decide +kernel
theorem dX8_isThing_3 : decode cX8_isThing 3 = .ok (.aload_n 0, 1) := by decide +kernel
theorem dX8_isThing_4 : decode cX8_isThing 4 = .ok (.getfield 183, 3) := by decide +kernel
theorem dX8_isThing_7 : decode cX8_isThing 7 = .ok (.iconst 1, 1) := by decide +kernel
theorem dX8_isThing_8 : decode cX8_isThing 8 = .ok (.isub, 1) := by decide +kernel
theorem dX8_isThing_9 : decode cX8_isThing 9 = .ok (.i2l, 1) := by decide +kernel
theorem dX8_isThing_10 : decode cX8_isThing 10 = .ok (.invokestatic 147, 3) := by decide +kernel
theorem dX8_isThing_13 : decode cX8_isThing 13 = .ok (.ireturn, 1) := by decide +kernel
set_option maxHeartbeats 4000000 in
set_option maxRecDepth 100000 in
theorem t_X8_isThing {l : Launch} {g : zG} {d : Nat} {s : zS} (hR : zRok s) {p0 : Int32} {K : Bool → zS → Prop} (h : K (zinr p0.toInt64 (0 : Int64) (((s.1 164 19) - (1 : Int32)).toInt64)) s) : zc l g (d + 1) M_X8_isThing [.ref 164, .int p0] s (zKz K) := by
  refine zCall_of k_X8_isThing (Nat.le_of_ble_eq_true rfl) (Nat.le_refl _) (fun _ => ?_)
  show zt l g (d + 1) M_X8_isThing 0 [.ref 164, .int p0] [] s (zKz K)
  refine z_iload_n (i := 1) dX8_isThing_0 rfl rfl rfl ?_
  refine z_i2l dX8_isThing_1 rfl ?_
  refine z_lconst (v := (0 : Int64)) dX8_isThing_2 (by decide) rfl ?_
  refine z_aload_n (i := 0) dX8_isThing_3 rfl rfl rfl ?_
  refine z_getI (x := s.1 164 19) rfl f_X8_183 i_164 rfl dX8_isThing_4 rfl ?_
  refine z_iconst (v := (1 : Int32)) dX8_isThing_7 (by decide) rfl ?_
  refine z_isub dX8_isThing_8 rfl ?_
  refine z_i2l dX8_isThing_9 rfl ?_
  refine z_in m_X8_147 dX8_isThing_10 (Nat.le_of_ble_eq_true rfl) rfl ?_
  exact z_ret (some (.int (zb (zinr p0.toInt64 (0 : Int64) (((s.1 164 19) - (1 : Int32)).toInt64))))) (Or.inr (Or.inl ⟨_, _, rfl, rfl, zb_nar _, dX8_isThing_13⟩)) zN200 ⟨_, rfl, h⟩
theorem dX8_isSeer_0 : decode cX8_isSeer 0 = .ok (.iload_n 1, 1) := by decide +kernel
theorem dX8_isSeer_1 : decode cX8_isSeer 1 = .ok (.i2l, 1) := by decide +kernel
theorem dX8_isSeer_2 : decode cX8_isSeer 2 = .ok (.lconst 0, 1) := by decide +kernel
theorem dX8_isSeer_3 : decode cX8_isSeer 3 = .ok (.aload_n 0, 1) := by decide +kernel
theorem dX8_isSeer_4 : decode cX8_isSeer 4 = .ok (.getfield 180, 3) := by decide +kernel
theorem dX8_isSeer_7 : decode cX8_isSeer 7 = .ok (.iconst 1, 1) := by decide +kernel
theorem dX8_isSeer_8 : decode cX8_isSeer 8 = .ok (.isub, 1) := by decide +kernel
theorem dX8_isSeer_9 : decode cX8_isSeer 9 = .ok (.i2l, 1) := by decide +kernel
theorem dX8_isSeer_10 : decode cX8_isSeer 10 = .ok (.invokestatic 147, 3) := by decide +kernel
theorem dX8_isSeer_13 : decode cX8_isSeer 13 = .ok (.ireturn, 1) := by decide +kernel
set_option maxHeartbeats 4000000 in
set_option maxRecDepth 100000 in
theorem t_X8_isSeer {l : Launch} {g : zG} {d : Nat} {s : zS} (hR : zRok s) {p0 : Int32} {K : Bool → zS → Prop} (h : K (zinr p0.toInt64 (0 : Int64) (((s.1 164 18) - (1 : Int32)).toInt64)) s) : zc l g (d + 1) M_X8_isSeer [.ref 164, .int p0] s (zKz K) := by
  refine zCall_of k_X8_isSeer (Nat.le_of_ble_eq_true rfl) (Nat.le_refl _) (fun _ => ?_)
  show zt l g (d + 1) M_X8_isSeer 0 [.ref 164, .int p0] [] s (zKz K)
  refine z_iload_n (i := 1) dX8_isSeer_0 rfl rfl rfl ?_
  refine z_i2l dX8_isSeer_1 rfl ?_
  refine z_lconst (v := (0 : Int64)) dX8_isSeer_2 (by decide) rfl ?_
  refine z_aload_n (i := 0) dX8_isSeer_3 rfl rfl rfl ?_
  refine z_getI (x := s.1 164 18) rfl f_X8_180 i_164 rfl dX8_isSeer_4 rfl ?_
  refine z_iconst (v := (1 : Int32)) dX8_isSeer_7 (by decide) rfl ?_
  refine z_isub dX8_isSeer_8 rfl ?_
  refine z_i2l dX8_isSeer_9 rfl ?_
  refine z_in m_X8_147 dX8_isSeer_10 (Nat.le_of_ble_eq_true rfl) rfl ?_
  exact z_ret (some (.int (zb (zinr p0.toInt64 (0 : Int64) (((s.1 164 18) - (1 : Int32)).toInt64))))) (Or.inr (Or.inl ⟨_, _, rfl, rfl, zb_nar _, dX8_isSeer_13⟩)) zN200 ⟨_, rfl, h⟩
theorem dX8_at_0 : decode cX8_at 0 = .ok (.aload_n 0, 1) := by decide +kernel
theorem dX8_at_1 : decode cX8_at 1 = .ok (.iload_n 1, 1) := by decide +kernel
theorem dX8_at_2 : decode cX8_at 2 = .ok (.invokevirtual 219, 3) := by decide +kernel
theorem dX8_at_5 : decode cX8_at 5 = .ok (.ifCond .eq 22, 3) := by decide +kernel
theorem dX8_at_8 : decode cX8_at 8 = .ok (.iload_n 2, 1) := by decide +kernel
theorem dX8_at_9 : decode cX8_at 9 = .ok (.invokestatic 153, 3) := by decide +kernel
theorem dX8_at_12 : decode cX8_at 12 = .ok (.ifCond .eq 15, 3) := by decide +kernel
theorem dX8_at_15 : decode cX8_at 15 = .ok (.iload_n 3, 1) := by decide +kernel
theorem dX8_at_16 : decode cX8_at 16 = .ok (.i2l, 1) := by decide +kernel
theorem dX8_at_17 : decode cX8_at 17 = .ok (.lconst 0, 1) := by decide +kernel
theorem dX8_at_18 : decode cX8_at 18 = .ok (.ldc2_w 222, 3) := by decide +kernel
theorem dX8_at_21 : decode cX8_at 21 = .ok (.invokestatic 147, 3) := by decide +kernel
theorem dX8_at_24 : decode cX8_at 24 = .ok (.ifCond .ne 6, 3) := by decide +kernel
theorem dX8_at_27 : decode cX8_at 27 = .ok (.ldc 224, 2) := by decide +kernel
theorem dX8_at_29 : decode cX8_at 29 = .ok (.ireturn, 1) := by decide +kernel
theorem dX8_at_30 : decode cX8_at 30 = .ok (.iload_n 3, 1) := by decide +kernel
theorem dX8_at_31 : decode cX8_at 31 = .ok (.iconst 3, 1) := by decide +kernel
theorem dX8_at_32 : decode cX8_at 32 = .ok (.if_icmp .ne 10, 3) := by decide +kernel
theorem dX8_at_35 : decode cX8_at 35 = .ok (.aload_n 0, 1) := by decide +kernel
theorem dX8_at_36 : decode cX8_at 36 = .ok (.getfield 31, 3) := by decide +kernel
theorem dX8_at_39 : decode cX8_at 39 = .ok (.iload_n 1, 1) := by decide +kernel
theorem dX8_at_40 : decode cX8_at 40 = .ok (.iaload, 1) := by decide +kernel
theorem dX8_at_41 : decode cX8_at 41 = .ok (.ireturn, 1) := by decide +kernel
theorem dX8_at_42 : decode cX8_at 42 = .ok (.aload_n 0, 1) := by decide +kernel
theorem dX8_at_43 : decode cX8_at 43 = .ok (.getfield 31, 3) := by decide +kernel
theorem dX8_at_46 : decode cX8_at 46 = .ok (.iload_n 1, 1) := by decide +kernel
theorem dX8_at_47 : decode cX8_at 47 = .ok (.iaload, 1) := by decide +kernel
theorem dX8_at_48 : decode cX8_at 48 = .ok (.ifCond .eq 12, 3) := by decide +kernel
theorem dX8_at_51 : decode cX8_at 51 = .ok (.aload_n 0, 1) := by decide +kernel
theorem dX8_at_52 : decode cX8_at 52 = .ok (.iload_n 1, 1) := by decide +kernel
theorem dX8_at_53 : decode cX8_at 53 = .ok (.iload_n 2, 1) := by decide +kernel
theorem dX8_at_54 : decode cX8_at 54 = .ok (.invokevirtual 225, 3) := by decide +kernel
theorem dX8_at_57 : decode cX8_at 57 = .ok (.ifCond .ne 6, 3) := by decide +kernel
theorem dX8_at_60 : decode cX8_at 60 = .ok (.ldc 224, 2) := by decide +kernel
theorem dX8_at_62 : decode cX8_at 62 = .ok (.ireturn, 1) := by decide +kernel
theorem dX8_at_63 : decode cX8_at 63 = .ok (.iload_n 3, 1) := by decide +kernel
theorem dX8_at_64 : decode cX8_at 64 = .ok (.ifCond .ne 10, 3) := by decide +kernel
theorem dX8_at_67 : decode cX8_at 67 = .ok (.aload_n 0, 1) := by decide +kernel
theorem dX8_at_68 : decode cX8_at 68 = .ok (.getfield 207, 3) := by decide +kernel
theorem dX8_at_71 : decode cX8_at 71 = .ok (.goto 19, 3) := by decide +kernel
theorem dX8_at_74 : decode cX8_at 74 = .ok (.iload_n 3, 1) := by decide +kernel
theorem dX8_at_75 : decode cX8_at 75 = .ok (.iconst 1, 1) := by decide +kernel
theorem dX8_at_76 : decode cX8_at 76 = .ok (.if_icmp .ne 10, 3) := by decide +kernel
theorem dX8_at_79 : decode cX8_at 79 = .ok (.aload_n 0, 1) := by decide +kernel
theorem dX8_at_80 : decode cX8_at 80 = .ok (.getfield 210, 3) := by decide +kernel
theorem dX8_at_83 : decode cX8_at 83 = .ok (.goto 7, 3) := by decide +kernel
theorem dX8_at_86 : decode cX8_at 86 = .ok (.aload_n 0, 1) := by decide +kernel
theorem dX8_at_87 : decode cX8_at 87 = .ok (.getfield 213, 3) := by decide +kernel
theorem dX8_at_90 : decode cX8_at 90 = .ok (.ireturn, 1) := by decide +kernel
set_option maxHeartbeats 4000000 in
set_option maxRecDepth 100000 in
theorem t_X8_at {l : Launch} {g : zG} {d : Nat} {s : zS} (hR : zRok s) {p0 : Int32} {p1 : Int32} {p2 : Int32} {K : Int32 → zS → Prop} (h : (zc l g d M_X8_isThing [.ref 164, .int p0] s (zKz (fun b2 s1 => s1.2.2.1 = s.2.2.1 ∧ (if b2 = true then (zc l g d M_X8_isMinute [.int p1] s1 (zKz (fun b4 s3 => s3.2.2.1 = s1.2.2.1 ∧ (if b4 = true then (if (zinr p2.toInt64 (0 : Int64) (3 : Int64)) = true then (if p2 = (3 : Int32) then (vp_in p0 12 ∧ K (s3.1 172 p0.toNatClampNeg) s3) else (vp_in p0 12 ∧ (if (s3.1 172 p0.toNatClampNeg) = 0 then K (-2147483648 : Int32) s3 else (zc l g d M_X8_isAt [.ref 164, .int p0, .int p1] s3 (zKz (fun b7 s6 => s6.2.2.1 = s3.2.2.1 ∧ (if b7 = true then (if p2 = 0 then K (s6.1 164 20) s6 else (if p2 = (1 : Int32) then K (s6.1 164 21) s6 else K (s6.1 164 22) s6)) else K (-2147483648 : Int32) s6))))))) else K (-2147483648 : Int32) s3) else K (-2147483648 : Int32) s3)))) else K (-2147483648 : Int32) s1))))) : zc l g (d + 1) M_X8_at [.ref 164, .int p0, .int p1, .int p2] s (zKi K) := by
  refine zCall_of k_X8_at (Nat.le_of_ble_eq_true rfl) (Nat.le_refl _) (fun _ => ?_)
  show zt l g (d + 1) M_X8_at 0 [.ref 164, .int p0, .int p1, .int p2] [] s (zKi K)
  refine z_aload_n (i := 0) dX8_at_0 rfl rfl rfl ?_
  refine z_iload_n (i := 1) dX8_at_1 rfl rfl rfl ?_
  refine z_callV k_X8_isThing m_X8_219 (zRec_of i_164) rfl h rfl (Nat.le_of_ble_eq_true rfl) dX8_at_2 zy200 rfl ?_
  rintro v s1 ⟨b2, rfl, hRs1, h⟩
  show zt l g (d + 1) M_X8_at 5 [.ref 164, .int p0, .int p1, .int p2] [.int (zb b2)] s1 _
  refine z_ifb_eq (pt := 27) dX8_at_5 (by decide) rfl (fun c => ?_) (fun c => ?_)
  · have h := zif h (by rw [c]; exact Bool.false_ne_true)
    refine z_ldc (v := (-2147483648 : Int32)) q_X8_224 dX8_at_27 rfl ?_
    exact z_ret (some (.int (-2147483648 : Int32))) (Or.inr (Or.inl ⟨_, _, rfl, rfl, rfl, dX8_at_29⟩)) zN200 ⟨_, rfl, h⟩
  · have h := zit h c
    refine z_iload_n (i := 2) dX8_at_8 rfl rfl rfl ?_
    refine z_callS (as := [.int p1]) k_X8_isMinute m_X8_153 rfl h rfl (Nat.le_of_ble_eq_true rfl) dX8_at_9 zy200 rfl ?_
    rintro v s3 ⟨b4, rfl, hRs3, h⟩
    show zt l g (d + 1) M_X8_at 12 [.ref 164, .int p0, .int p1, .int p2] [.int (zb b4)] s3 _
    refine z_ifb_eq (pt := 27) dX8_at_12 (by decide) rfl (fun c => ?_) (fun c => ?_)
    · have h := zif h (by rw [c]; exact Bool.false_ne_true)
      refine z_ldc (v := (-2147483648 : Int32)) q_X8_224 dX8_at_27 rfl ?_
      exact z_ret (some (.int (-2147483648 : Int32))) (Or.inr (Or.inl ⟨_, _, rfl, rfl, rfl, dX8_at_29⟩)) zN200 ⟨_, rfl, h⟩
    · have h := zit h c
      refine z_iload_n (i := 3) dX8_at_15 rfl rfl rfl ?_
      refine z_i2l dX8_at_16 rfl ?_
      refine z_lconst (v := (0 : Int64)) dX8_at_17 (by decide) rfl ?_
      refine z_ldc2 (v := (3 : Int64)) q_X8_222 dX8_at_18 rfl ?_
      refine z_in m_X8_147 dX8_at_21 (Nat.le_of_ble_eq_true rfl) rfl ?_
      refine z_ifb_ne (pt := 30) dX8_at_24 (by decide) rfl (fun c => ?_) (fun c => ?_)
      · have h := zit h c
        refine z_iload_n (i := 3) dX8_at_30 rfl rfl rfl ?_
        refine z_iconst (v := (3 : Int32)) dX8_at_31 (by decide) rfl ?_
        refine z_icmp_ne (pt := 42) dX8_at_32 (by decide) rfl (fun c => ?_) (fun c => ?_)
        · have h := zif h c
          refine z_aload_n (i := 0) dX8_at_42 rfl rfl rfl ?_
          refine z_getR (q := 172) f_X8_31 i_164 rfl (r_164_7 (zRok_of hRs3 (zRok_of hRs1 hR))) (by decide) dX8_at_43 rfl ?_
          refine z_iload_n (i := 1) dX8_at_46 rfl rfl rfl ?_
          obtain ⟨a5, h⟩ := h
          have wa5 := vin a5
          refine z_iald (x := s3.1 172 p0.toNatClampNeg) rfl a_172 a5 dX8_at_47 rfl ?_
          refine z_if_eq (pt := 60) dX8_at_48 (by decide) rfl (fun c => ?_) (fun c => ?_)
          · have h := zit h c
            refine z_ldc (v := (-2147483648 : Int32)) q_X8_224 dX8_at_60 rfl ?_
            exact z_ret (some (.int (-2147483648 : Int32))) (Or.inr (Or.inl ⟨_, _, rfl, rfl, rfl, dX8_at_62⟩)) zN200 ⟨_, rfl, h⟩
          · have h := zif h c
            refine z_aload_n (i := 0) dX8_at_51 rfl rfl rfl ?_
            refine z_iload_n (i := 1) dX8_at_52 rfl rfl rfl ?_
            refine z_iload_n (i := 2) dX8_at_53 rfl rfl rfl ?_
            refine z_callV k_X8_isAt m_X8_225 (zRec_of i_164) rfl h rfl (Nat.le_of_ble_eq_true rfl) dX8_at_54 zy200 rfl ?_
            rintro v s6 ⟨b7, rfl, hRs6, h⟩
            show zt l g (d + 1) M_X8_at 57 [.ref 164, .int p0, .int p1, .int p2] [.int (zb b7)] s6 _
            refine z_ifb_ne (pt := 63) dX8_at_57 (by decide) rfl (fun c => ?_) (fun c => ?_)
            · have h := zit h c
              refine z_iload_n (i := 3) dX8_at_63 rfl rfl rfl ?_
              refine z_if_ne (pt := 74) dX8_at_64 (by decide) rfl (fun c => ?_) (fun c => ?_)
              · have h := zif h c
                refine z_iload_n (i := 3) dX8_at_74 rfl rfl rfl ?_
                refine z_iconst (v := (1 : Int32)) dX8_at_75 (by decide) rfl ?_
                refine z_icmp_ne (pt := 86) dX8_at_76 (by decide) rfl (fun c => ?_) (fun c => ?_)
                · have h := zif h c
                  refine z_aload_n (i := 0) dX8_at_86 rfl rfl rfl ?_
                  refine z_getI (x := s6.1 164 22) rfl f_X8_213 i_164 rfl dX8_at_87 rfl ?_
                  exact z_ret (some (.int (s6.1 164 22))) (Or.inr (Or.inl ⟨_, _, rfl, rfl, rfl, dX8_at_90⟩)) zN200 ⟨_, rfl, h⟩
                · have h := zit h c
                  refine z_aload_n (i := 0) dX8_at_79 rfl rfl rfl ?_
                  refine z_getI (x := s6.1 164 21) rfl f_X8_210 i_164 rfl dX8_at_80 rfl ?_
                  refine z_goto (pn := 90) dX8_at_83 (by decide) ?_
                  exact z_ret (some (.int (s6.1 164 21))) (Or.inr (Or.inl ⟨_, _, rfl, rfl, rfl, dX8_at_90⟩)) zN200 ⟨_, rfl, h⟩
              · have h := zit h c
                refine z_aload_n (i := 0) dX8_at_67 rfl rfl rfl ?_
                refine z_getI (x := s6.1 164 20) rfl f_X8_207 i_164 rfl dX8_at_68 rfl ?_
                refine z_goto (pn := 90) dX8_at_71 (by decide) ?_
                exact z_ret (some (.int (s6.1 164 20))) (Or.inr (Or.inl ⟨_, _, rfl, rfl, rfl, dX8_at_90⟩)) zN200 ⟨_, rfl, h⟩
            · have h := zif h (by rw [c]; exact Bool.false_ne_true)
              refine z_ldc (v := (-2147483648 : Int32)) q_X8_224 dX8_at_60 rfl ?_
              exact z_ret (some (.int (-2147483648 : Int32))) (Or.inr (Or.inl ⟨_, _, rfl, rfl, rfl, dX8_at_62⟩)) zN200 ⟨_, rfl, h⟩
        · have h := zit h c
          refine z_aload_n (i := 0) dX8_at_35 rfl rfl rfl ?_
          refine z_getR (q := 172) f_X8_31 i_164 rfl (r_164_7 (zRok_of hRs3 (zRok_of hRs1 hR))) (by decide) dX8_at_36 rfl ?_
          refine z_iload_n (i := 1) dX8_at_39 rfl rfl rfl ?_
          obtain ⟨a8, h⟩ := h
          have wa8 := vin a8
          refine z_iald (x := s3.1 172 p0.toNatClampNeg) rfl a_172 a8 dX8_at_40 rfl ?_
          exact z_ret (some (.int (s3.1 172 p0.toNatClampNeg))) (Or.inr (Or.inl ⟨_, _, rfl, rfl, rfl, dX8_at_41⟩)) zN200 ⟨_, rfl, h⟩
      · have h := zif h (by rw [c]; exact Bool.false_ne_true)
        refine z_ldc (v := (-2147483648 : Int32)) q_X8_224 dX8_at_27 rfl ?_
        exact z_ret (some (.int (-2147483648 : Int32))) (Or.inr (Or.inl ⟨_, _, rfl, rfl, rfl, dX8_at_29⟩)) zN200 ⟨_, rfl, h⟩
theorem dX8_wayOf_0 : decode cX8_wayOf 0 = .ok (.iload_n 0, 1) := by decide +kernel
theorem dX8_wayOf_1 : decode cX8_wayOf 1 = .ok (.invokestatic 229, 3) := by decide +kernel
theorem dX8_wayOf_4 : decode cX8_wayOf 4 = .ok (.iload_n 1, 1) := by decide +kernel
theorem dX8_wayOf_5 : decode cX8_wayOf 5 = .ok (.invokestatic 229, 3) := by decide +kernel
theorem dX8_wayOf_8 : decode cX8_wayOf 8 = .ok (.iadd, 1) := by decide +kernel
theorem dX8_wayOf_9 : decode cX8_wayOf 9 = .ok (.istore_n 2, 1) := by decide +kernel
theorem dX8_wayOf_10 : decode cX8_wayOf 10 = .ok (.iload_n 2, 1) := by decide +kernel
theorem dX8_wayOf_11 : decode cX8_wayOf 11 = .ok (.ifCond .ne 5, 3) := by decide +kernel
theorem dX8_wayOf_14 : decode cX8_wayOf 14 = .ok (.iconst 0, 1) := by decide +kernel
theorem dX8_wayOf_15 : decode cX8_wayOf 15 = .ok (.ireturn, 1) := by decide +kernel
theorem dX8_wayOf_16 : decode cX8_wayOf 16 = .ok (.iload_n 0, 1) := by decide +kernel
theorem dX8_wayOf_17 : decode cX8_wayOf 17 = .ok (.ifCond .le 14, 3) := by decide +kernel
theorem dX8_wayOf_20 : decode cX8_wayOf 20 = .ok (.iload_n 1, 1) := by decide +kernel
theorem dX8_wayOf_21 : decode cX8_wayOf 21 = .ok (.ifCond .lt 10, 3) := by decide +kernel
theorem dX8_wayOf_24 : decode cX8_wayOf 24 = .ok (.bipush 64, 2) := by decide +kernel
theorem dX8_wayOf_26 : decode cX8_wayOf 26 = .ok (.iload_n 1, 1) := by decide +kernel
theorem dX8_wayOf_27 : decode cX8_wayOf 27 = .ok (.imul, 1) := by decide +kernel
theorem dX8_wayOf_28 : decode cX8_wayOf 28 = .ok (.iload_n 2, 1) := by decide +kernel
theorem dX8_wayOf_29 : decode cX8_wayOf 29 = .ok (.idiv, 1) := by decide +kernel
theorem dX8_wayOf_30 : decode cX8_wayOf 30 = .ok (.ireturn, 1) := by decide +kernel
theorem dX8_wayOf_31 : decode cX8_wayOf 31 = .ok (.iload_n 0, 1) := by decide +kernel
theorem dX8_wayOf_32 : decode cX8_wayOf 32 = .ok (.ifCond .gt 18, 3) := by decide +kernel
theorem dX8_wayOf_35 : decode cX8_wayOf 35 = .ok (.iload_n 1, 1) := by decide +kernel
theorem dX8_wayOf_36 : decode cX8_wayOf 36 = .ok (.ifCond .le 14, 3) := by decide +kernel
theorem dX8_wayOf_39 : decode cX8_wayOf 39 = .ok (.bipush 64, 2) := by decide +kernel
theorem dX8_wayOf_41 : decode cX8_wayOf 41 = .ok (.bipush 64, 2) := by decide +kernel
theorem dX8_wayOf_43 : decode cX8_wayOf 43 = .ok (.iload_n 0, 1) := by decide +kernel
theorem dX8_wayOf_44 : decode cX8_wayOf 44 = .ok (.ineg, 1) := by decide +kernel
theorem dX8_wayOf_45 : decode cX8_wayOf 45 = .ok (.imul, 1) := by decide +kernel
theorem dX8_wayOf_46 : decode cX8_wayOf 46 = .ok (.iload_n 2, 1) := by decide +kernel
theorem dX8_wayOf_47 : decode cX8_wayOf 47 = .ok (.idiv, 1) := by decide +kernel
theorem dX8_wayOf_48 : decode cX8_wayOf 48 = .ok (.iadd, 1) := by decide +kernel
theorem dX8_wayOf_49 : decode cX8_wayOf 49 = .ok (.ireturn, 1) := by decide +kernel
theorem dX8_wayOf_50 : decode cX8_wayOf 50 = .ok (.iload_n 0, 1) := by decide +kernel
theorem dX8_wayOf_51 : decode cX8_wayOf 51 = .ok (.ifCond .ge 15, 3) := by decide +kernel
theorem dX8_wayOf_54 : decode cX8_wayOf 54 = .ok (.sipush 128, 3) := by decide +kernel
theorem dX8_wayOf_57 : decode cX8_wayOf 57 = .ok (.bipush 64, 2) := by decide +kernel
theorem dX8_wayOf_59 : decode cX8_wayOf 59 = .ok (.iload_n 1, 1) := by decide +kernel
theorem dX8_wayOf_60 : decode cX8_wayOf 60 = .ok (.ineg, 1) := by decide +kernel
theorem dX8_wayOf_61 : decode cX8_wayOf 61 = .ok (.imul, 1) := by decide +kernel
theorem dX8_wayOf_62 : decode cX8_wayOf 62 = .ok (.iload_n 2, 1) := by decide +kernel
theorem dX8_wayOf_63 : decode cX8_wayOf 63 = .ok (.idiv, 1) := by decide +kernel
theorem dX8_wayOf_64 : decode cX8_wayOf 64 = .ok (.iadd, 1) := by decide +kernel
theorem dX8_wayOf_65 : decode cX8_wayOf 65 = .ok (.ireturn, 1) := by decide +kernel
theorem dX8_wayOf_66 : decode cX8_wayOf 66 = .ok (.sipush 192, 3) := by decide +kernel
theorem dX8_wayOf_69 : decode cX8_wayOf 69 = .ok (.bipush 64, 2) := by decide +kernel
theorem dX8_wayOf_71 : decode cX8_wayOf 71 = .ok (.iload_n 0, 1) := by decide +kernel
theorem dX8_wayOf_72 : decode cX8_wayOf 72 = .ok (.imul, 1) := by decide +kernel
theorem dX8_wayOf_73 : decode cX8_wayOf 73 = .ok (.iload_n 2, 1) := by decide +kernel
theorem dX8_wayOf_74 : decode cX8_wayOf 74 = .ok (.idiv, 1) := by decide +kernel
theorem dX8_wayOf_75 : decode cX8_wayOf 75 = .ok (.iadd, 1) := by decide +kernel
theorem dX8_wayOf_76 : decode cX8_wayOf 76 = .ok (.ireturn, 1) := by decide +kernel
set_option maxHeartbeats 4000000 in
set_option maxRecDepth 100000 in
theorem t_X8_wayOf {l : Launch} {g : zG} {d : Nat} {s : zS} (hR : zRok s) {p0 : Int32} {p1 : Int32} {K : Int32 → zS → Prop} (h : (if ((zabs p0) + (zabs p1)) = 0 then K (0 : Int32) s else (if p0 ≤ 0 then (if 0 < p0 then (if 0 ≤ p0 then (¬ ((zabs p0) + (zabs p1)) = 0 ∧ K ((192 : Int32) + (((64 : Int32) * p0) / ((zabs p0) + (zabs p1)))) s) else (¬ ((zabs p0) + (zabs p1)) = 0 ∧ K ((128 : Int32) + (((64 : Int32) * (-p1)) / ((zabs p0) + (zabs p1)))) s)) else (if p1 ≤ 0 then (if 0 ≤ p0 then (¬ ((zabs p0) + (zabs p1)) = 0 ∧ K ((192 : Int32) + (((64 : Int32) * p0) / ((zabs p0) + (zabs p1)))) s) else (¬ ((zabs p0) + (zabs p1)) = 0 ∧ K ((128 : Int32) + (((64 : Int32) * (-p1)) / ((zabs p0) + (zabs p1)))) s)) else (¬ ((zabs p0) + (zabs p1)) = 0 ∧ K ((64 : Int32) + (((64 : Int32) * (-p0)) / ((zabs p0) + (zabs p1)))) s))) else (if p1 < 0 then (if 0 < p0 then (if 0 ≤ p0 then (¬ ((zabs p0) + (zabs p1)) = 0 ∧ K ((192 : Int32) + (((64 : Int32) * p0) / ((zabs p0) + (zabs p1)))) s) else (¬ ((zabs p0) + (zabs p1)) = 0 ∧ K ((128 : Int32) + (((64 : Int32) * (-p1)) / ((zabs p0) + (zabs p1)))) s)) else (if p1 ≤ 0 then (if 0 ≤ p0 then (¬ ((zabs p0) + (zabs p1)) = 0 ∧ K ((192 : Int32) + (((64 : Int32) * p0) / ((zabs p0) + (zabs p1)))) s) else (¬ ((zabs p0) + (zabs p1)) = 0 ∧ K ((128 : Int32) + (((64 : Int32) * (-p1)) / ((zabs p0) + (zabs p1)))) s)) else (¬ ((zabs p0) + (zabs p1)) = 0 ∧ K ((64 : Int32) + (((64 : Int32) * (-p0)) / ((zabs p0) + (zabs p1)))) s))) else (¬ ((zabs p0) + (zabs p1)) = 0 ∧ K (((64 : Int32) * p1) / ((zabs p0) + (zabs p1))) s))))) : zc l g (d + 1) M_X8_wayOf [.int p0, .int p1] s (zKi K) := by
  refine zCall_of k_X8_wayOf (Nat.le_of_ble_eq_true rfl) (Nat.le_refl _) (fun _ => ?_)
  show zt l g (d + 1) M_X8_wayOf 0 [.int p0, .int p1, zJ] [] s (zKi K)
  refine z_iload_n (i := 0) dX8_wayOf_0 rfl rfl rfl ?_
  refine z_mabs m_X8_229 dX8_wayOf_1 (Nat.le_of_ble_eq_true rfl) rfl ?_
  refine z_iload_n (i := 1) dX8_wayOf_4 rfl rfl rfl ?_
  refine z_mabs m_X8_229 dX8_wayOf_5 (Nat.le_of_ble_eq_true rfl) rfl ?_
  refine z_iadd dX8_wayOf_8 rfl ?_
  refine z_istore_n (i := 2) dX8_wayOf_9 rfl (by decide) (zokd rfl) rfl ?_
  show zt l g (d + 1) M_X8_wayOf 10 [.int p0, .int p1, .int ((zabs p0) + (zabs p1))] [] s _
  refine z_iload_n (i := 2) dX8_wayOf_10 rfl rfl rfl ?_
  refine z_if_ne (pt := 16) dX8_wayOf_11 (by decide) rfl (fun c => ?_) (fun c => ?_)
  · have h := zif h c
    refine z_iload_n (i := 0) dX8_wayOf_16 rfl rfl rfl ?_
    refine z_if_le (pt := 31) dX8_wayOf_17 (by decide) rfl (fun c => ?_) (fun c => ?_)
    · have h := zit h c
      refine z_iload_n (i := 0) dX8_wayOf_31 rfl rfl rfl ?_
      refine z_if_gt (pt := 50) dX8_wayOf_32 (by decide) rfl (fun c => ?_) (fun c => ?_)
      · have h := zit h c
        refine z_iload_n (i := 0) dX8_wayOf_50 rfl rfl rfl ?_
        refine z_if_ge (pt := 66) dX8_wayOf_51 (by decide) rfl (fun c => ?_) (fun c => ?_)
        · have h := zit h c
          refine z_sipush (v := (192 : Int32)) dX8_wayOf_66 (by decide) rfl ?_
          refine z_bipush (v := (64 : Int32)) dX8_wayOf_69 (by decide) rfl ?_
          refine z_iload_n (i := 0) dX8_wayOf_71 rfl rfl rfl ?_
          refine z_imul dX8_wayOf_72 rfl ?_
          refine z_iload_n (i := 2) dX8_wayOf_73 rfl rfl rfl ?_
          obtain ⟨a1, h⟩ := h
          refine z_idiv dX8_wayOf_74 a1 rfl ?_
          refine z_iadd dX8_wayOf_75 rfl ?_
          exact z_ret (some (.int ((192 : Int32) + (((64 : Int32) * p0) / ((zabs p0) + (zabs p1)))))) (Or.inr (Or.inl ⟨_, _, rfl, rfl, rfl, dX8_wayOf_76⟩)) zN200 ⟨_, rfl, h⟩
        · have h := zif h c
          refine z_sipush (v := (128 : Int32)) dX8_wayOf_54 (by decide) rfl ?_
          refine z_bipush (v := (64 : Int32)) dX8_wayOf_57 (by decide) rfl ?_
          refine z_iload_n (i := 1) dX8_wayOf_59 rfl rfl rfl ?_
          refine z_ineg dX8_wayOf_60 rfl ?_
          refine z_imul dX8_wayOf_61 rfl ?_
          refine z_iload_n (i := 2) dX8_wayOf_62 rfl rfl rfl ?_
          obtain ⟨a2, h⟩ := h
          refine z_idiv dX8_wayOf_63 a2 rfl ?_
          refine z_iadd dX8_wayOf_64 rfl ?_
          exact z_ret (some (.int ((128 : Int32) + (((64 : Int32) * (-p1)) / ((zabs p0) + (zabs p1)))))) (Or.inr (Or.inl ⟨_, _, rfl, rfl, rfl, dX8_wayOf_65⟩)) zN200 ⟨_, rfl, h⟩
      · have h := zif h c
        refine z_iload_n (i := 1) dX8_wayOf_35 rfl rfl rfl ?_
        refine z_if_le (pt := 50) dX8_wayOf_36 (by decide) rfl (fun c => ?_) (fun c => ?_)
        · have h := zit h c
          refine z_iload_n (i := 0) dX8_wayOf_50 rfl rfl rfl ?_
          refine z_if_ge (pt := 66) dX8_wayOf_51 (by decide) rfl (fun c => ?_) (fun c => ?_)
          · have h := zit h c
            refine z_sipush (v := (192 : Int32)) dX8_wayOf_66 (by decide) rfl ?_
            refine z_bipush (v := (64 : Int32)) dX8_wayOf_69 (by decide) rfl ?_
            refine z_iload_n (i := 0) dX8_wayOf_71 rfl rfl rfl ?_
            refine z_imul dX8_wayOf_72 rfl ?_
            refine z_iload_n (i := 2) dX8_wayOf_73 rfl rfl rfl ?_
            obtain ⟨a3, h⟩ := h
            refine z_idiv dX8_wayOf_74 a3 rfl ?_
            refine z_iadd dX8_wayOf_75 rfl ?_
            exact z_ret (some (.int ((192 : Int32) + (((64 : Int32) * p0) / ((zabs p0) + (zabs p1)))))) (Or.inr (Or.inl ⟨_, _, rfl, rfl, rfl, dX8_wayOf_76⟩)) zN200 ⟨_, rfl, h⟩
          · have h := zif h c
            refine z_sipush (v := (128 : Int32)) dX8_wayOf_54 (by decide) rfl ?_
            refine z_bipush (v := (64 : Int32)) dX8_wayOf_57 (by decide) rfl ?_
            refine z_iload_n (i := 1) dX8_wayOf_59 rfl rfl rfl ?_
            refine z_ineg dX8_wayOf_60 rfl ?_
            refine z_imul dX8_wayOf_61 rfl ?_
            refine z_iload_n (i := 2) dX8_wayOf_62 rfl rfl rfl ?_
            obtain ⟨a4, h⟩ := h
            refine z_idiv dX8_wayOf_63 a4 rfl ?_
            refine z_iadd dX8_wayOf_64 rfl ?_
            exact z_ret (some (.int ((128 : Int32) + (((64 : Int32) * (-p1)) / ((zabs p0) + (zabs p1)))))) (Or.inr (Or.inl ⟨_, _, rfl, rfl, rfl, dX8_wayOf_65⟩)) zN200 ⟨_, rfl, h⟩
        · have h := zif h c
          refine z_bipush (v := (64 : Int32)) dX8_wayOf_39 (by decide) rfl ?_
          refine z_bipush (v := (64 : Int32)) dX8_wayOf_41 (by decide) rfl ?_
          refine z_iload_n (i := 0) dX8_wayOf_43 rfl rfl rfl ?_
          refine z_ineg dX8_wayOf_44 rfl ?_
          refine z_imul dX8_wayOf_45 rfl ?_
          refine z_iload_n (i := 2) dX8_wayOf_46 rfl rfl rfl ?_
          obtain ⟨a5, h⟩ := h
          refine z_idiv dX8_wayOf_47 a5 rfl ?_
          refine z_iadd dX8_wayOf_48 rfl ?_
          exact z_ret (some (.int ((64 : Int32) + (((64 : Int32) * (-p0)) / ((zabs p0) + (zabs p1)))))) (Or.inr (Or.inl ⟨_, _, rfl, rfl, rfl, dX8_wayOf_49⟩)) zN200 ⟨_, rfl, h⟩
    · have h := zif h c
      refine z_iload_n (i := 1) dX8_wayOf_20 rfl rfl rfl ?_
      refine z_if_lt (pt := 31) dX8_wayOf_21 (by decide) rfl (fun c => ?_) (fun c => ?_)
      · have h := zit h c
        refine z_iload_n (i := 0) dX8_wayOf_31 rfl rfl rfl ?_
        refine z_if_gt (pt := 50) dX8_wayOf_32 (by decide) rfl (fun c => ?_) (fun c => ?_)
        · have h := zit h c
          refine z_iload_n (i := 0) dX8_wayOf_50 rfl rfl rfl ?_
          refine z_if_ge (pt := 66) dX8_wayOf_51 (by decide) rfl (fun c => ?_) (fun c => ?_)
          · have h := zit h c
            refine z_sipush (v := (192 : Int32)) dX8_wayOf_66 (by decide) rfl ?_
            refine z_bipush (v := (64 : Int32)) dX8_wayOf_69 (by decide) rfl ?_
            refine z_iload_n (i := 0) dX8_wayOf_71 rfl rfl rfl ?_
            refine z_imul dX8_wayOf_72 rfl ?_
            refine z_iload_n (i := 2) dX8_wayOf_73 rfl rfl rfl ?_
            obtain ⟨a6, h⟩ := h
            refine z_idiv dX8_wayOf_74 a6 rfl ?_
            refine z_iadd dX8_wayOf_75 rfl ?_
            exact z_ret (some (.int ((192 : Int32) + (((64 : Int32) * p0) / ((zabs p0) + (zabs p1)))))) (Or.inr (Or.inl ⟨_, _, rfl, rfl, rfl, dX8_wayOf_76⟩)) zN200 ⟨_, rfl, h⟩
          · have h := zif h c
            refine z_sipush (v := (128 : Int32)) dX8_wayOf_54 (by decide) rfl ?_
            refine z_bipush (v := (64 : Int32)) dX8_wayOf_57 (by decide) rfl ?_
            refine z_iload_n (i := 1) dX8_wayOf_59 rfl rfl rfl ?_
            refine z_ineg dX8_wayOf_60 rfl ?_
            refine z_imul dX8_wayOf_61 rfl ?_
            refine z_iload_n (i := 2) dX8_wayOf_62 rfl rfl rfl ?_
            obtain ⟨a7, h⟩ := h
            refine z_idiv dX8_wayOf_63 a7 rfl ?_
            refine z_iadd dX8_wayOf_64 rfl ?_
            exact z_ret (some (.int ((128 : Int32) + (((64 : Int32) * (-p1)) / ((zabs p0) + (zabs p1)))))) (Or.inr (Or.inl ⟨_, _, rfl, rfl, rfl, dX8_wayOf_65⟩)) zN200 ⟨_, rfl, h⟩
        · have h := zif h c
          refine z_iload_n (i := 1) dX8_wayOf_35 rfl rfl rfl ?_
          refine z_if_le (pt := 50) dX8_wayOf_36 (by decide) rfl (fun c => ?_) (fun c => ?_)
          · have h := zit h c
            refine z_iload_n (i := 0) dX8_wayOf_50 rfl rfl rfl ?_
            refine z_if_ge (pt := 66) dX8_wayOf_51 (by decide) rfl (fun c => ?_) (fun c => ?_)
            · have h := zit h c
              refine z_sipush (v := (192 : Int32)) dX8_wayOf_66 (by decide) rfl ?_
              refine z_bipush (v := (64 : Int32)) dX8_wayOf_69 (by decide) rfl ?_
              refine z_iload_n (i := 0) dX8_wayOf_71 rfl rfl rfl ?_
              refine z_imul dX8_wayOf_72 rfl ?_
              refine z_iload_n (i := 2) dX8_wayOf_73 rfl rfl rfl ?_
              obtain ⟨a8, h⟩ := h
              refine z_idiv dX8_wayOf_74 a8 rfl ?_
              refine z_iadd dX8_wayOf_75 rfl ?_
              exact z_ret (some (.int ((192 : Int32) + (((64 : Int32) * p0) / ((zabs p0) + (zabs p1)))))) (Or.inr (Or.inl ⟨_, _, rfl, rfl, rfl, dX8_wayOf_76⟩)) zN200 ⟨_, rfl, h⟩
            · have h := zif h c
              refine z_sipush (v := (128 : Int32)) dX8_wayOf_54 (by decide) rfl ?_
              refine z_bipush (v := (64 : Int32)) dX8_wayOf_57 (by decide) rfl ?_
              refine z_iload_n (i := 1) dX8_wayOf_59 rfl rfl rfl ?_
              refine z_ineg dX8_wayOf_60 rfl ?_
              refine z_imul dX8_wayOf_61 rfl ?_
              refine z_iload_n (i := 2) dX8_wayOf_62 rfl rfl rfl ?_
              obtain ⟨a9, h⟩ := h
              refine z_idiv dX8_wayOf_63 a9 rfl ?_
              refine z_iadd dX8_wayOf_64 rfl ?_
              exact z_ret (some (.int ((128 : Int32) + (((64 : Int32) * (-p1)) / ((zabs p0) + (zabs p1)))))) (Or.inr (Or.inl ⟨_, _, rfl, rfl, rfl, dX8_wayOf_65⟩)) zN200 ⟨_, rfl, h⟩
          · have h := zif h c
            refine z_bipush (v := (64 : Int32)) dX8_wayOf_39 (by decide) rfl ?_
            refine z_bipush (v := (64 : Int32)) dX8_wayOf_41 (by decide) rfl ?_
            refine z_iload_n (i := 0) dX8_wayOf_43 rfl rfl rfl ?_
            refine z_ineg dX8_wayOf_44 rfl ?_
            refine z_imul dX8_wayOf_45 rfl ?_
            refine z_iload_n (i := 2) dX8_wayOf_46 rfl rfl rfl ?_
            obtain ⟨a10, h⟩ := h
            refine z_idiv dX8_wayOf_47 a10 rfl ?_
            refine z_iadd dX8_wayOf_48 rfl ?_
            exact z_ret (some (.int ((64 : Int32) + (((64 : Int32) * (-p0)) / ((zabs p0) + (zabs p1)))))) (Or.inr (Or.inl ⟨_, _, rfl, rfl, rfl, dX8_wayOf_49⟩)) zN200 ⟨_, rfl, h⟩
      · have h := zif h c
        refine z_bipush (v := (64 : Int32)) dX8_wayOf_24 (by decide) rfl ?_
        refine z_iload_n (i := 1) dX8_wayOf_26 rfl rfl rfl ?_
        refine z_imul dX8_wayOf_27 rfl ?_
        refine z_iload_n (i := 2) dX8_wayOf_28 rfl rfl rfl ?_
        obtain ⟨a11, h⟩ := h
        refine z_idiv dX8_wayOf_29 a11 rfl ?_
        exact z_ret (some (.int (((64 : Int32) * p1) / ((zabs p0) + (zabs p1))))) (Or.inr (Or.inl ⟨_, _, rfl, rfl, rfl, dX8_wayOf_30⟩)) zN200 ⟨_, rfl, h⟩
  · have h := zit h c
    refine z_iconst (v := (0 : Int32)) dX8_wayOf_14 (by decide) rfl ?_
    exact z_ret (some (.int (0 : Int32))) (Or.inr (Or.inl ⟨_, _, rfl, rfl, rfl, dX8_wayOf_15⟩)) zN200 ⟨_, rfl, h⟩
theorem dX8_slopeOf_0 : decode cX8_slopeOf 0 = .ok (.iload_n 0, 1) := by decide +kernel
theorem dX8_slopeOf_1 : decode cX8_slopeOf 1 = .ok (.invokestatic 229, 3) := by decide +kernel
theorem dX8_slopeOf_4 : decode cX8_slopeOf 4 = .ok (.iload_n 1, 1) := by decide +kernel
theorem dX8_slopeOf_5 : decode cX8_slopeOf 5 = .ok (.invokestatic 229, 3) := by decide +kernel
theorem dX8_slopeOf_8 : decode cX8_slopeOf 8 = .ok (.iadd, 1) := by decide +kernel
theorem dX8_slopeOf_9 : decode cX8_slopeOf 9 = .ok (.istore_n 3, 1) := by decide +kernel
theorem dX8_slopeOf_10 : decode cX8_slopeOf 10 = .ok (.iload_n 3, 1) := by decide +kernel
theorem dX8_slopeOf_11 : decode cX8_slopeOf 11 = .ok (.ifCond .ne 9, 3) := by decide +kernel
theorem dX8_slopeOf_14 : decode cX8_slopeOf 14 = .ok (.sipush 999, 3) := by decide +kernel
theorem dX8_slopeOf_17 : decode cX8_slopeOf 17 = .ok (.goto 23, 3) := by decide +kernel
theorem dX8_slopeOf_20 : decode cX8_slopeOf 20 = .ok (.sipush (-999), 3) := by decide +kernel
theorem dX8_slopeOf_23 : decode cX8_slopeOf 23 = .ok (.sipush 999, 3) := by decide +kernel
theorem dX8_slopeOf_26 : decode cX8_slopeOf 26 = .ok (.bipush 100, 2) := by decide +kernel
theorem dX8_slopeOf_28 : decode cX8_slopeOf 28 = .ok (.iload_n 2, 1) := by decide +kernel
theorem dX8_slopeOf_29 : decode cX8_slopeOf 29 = .ok (.imul, 1) := by decide +kernel
theorem dX8_slopeOf_30 : decode cX8_slopeOf 30 = .ok (.iload_n 3, 1) := by decide +kernel
theorem dX8_slopeOf_31 : decode cX8_slopeOf 31 = .ok (.invokestatic 216, 3) := by decide +kernel
theorem dX8_slopeOf_34 : decode cX8_slopeOf 34 = .ok (.invokestatic 165, 3) := by decide +kernel
theorem dX8_slopeOf_37 : decode cX8_slopeOf 37 = .ok (.invokestatic 171, 3) := by decide +kernel
theorem dX8_slopeOf_40 : decode cX8_slopeOf 40 = .ok (.ireturn, 1) := by decide +kernel
set_option maxHeartbeats 4000000 in
set_option maxRecDepth 100000 in
theorem t_X8_slopeOf {l : Launch} {g : zG} {d : Nat} {s : zS} (hR : zRok s) {p0 : Int32} {p1 : Int32} {p2 : Int32} {K : Int32 → zS → Prop} (h : (if ((zabs p0) + (zabs p1)) = 0 then K (999 : Int32) s else (¬ ((zabs p0) + (zabs p1)) = 0 ∧ K (zmax (-999 : Int32) (zmin (999 : Int32) (zfd ((100 : Int32) * p2) ((zabs p0) + (zabs p1))))) s))) : zc l g (d + 1) M_X8_slopeOf [.int p0, .int p1, .int p2] s (zKi K) := by
  refine zCall_of k_X8_slopeOf (Nat.le_of_ble_eq_true rfl) (Nat.le_refl _) (fun _ => ?_)
  show zt l g (d + 1) M_X8_slopeOf 0 [.int p0, .int p1, .int p2, zJ] [] s (zKi K)
  refine z_iload_n (i := 0) dX8_slopeOf_0 rfl rfl rfl ?_
  refine z_mabs m_X8_229 dX8_slopeOf_1 (Nat.le_of_ble_eq_true rfl) rfl ?_
  refine z_iload_n (i := 1) dX8_slopeOf_4 rfl rfl rfl ?_
  refine z_mabs m_X8_229 dX8_slopeOf_5 (Nat.le_of_ble_eq_true rfl) rfl ?_
  refine z_iadd dX8_slopeOf_8 rfl ?_
  refine z_istore_n (i := 3) dX8_slopeOf_9 rfl (by decide) (zokd rfl) rfl ?_
  show zt l g (d + 1) M_X8_slopeOf 10 [.int p0, .int p1, .int p2, .int ((zabs p0) + (zabs p1))] [] s _
  refine z_iload_n (i := 3) dX8_slopeOf_10 rfl rfl rfl ?_
  refine z_if_ne (pt := 20) dX8_slopeOf_11 (by decide) rfl (fun c => ?_) (fun c => ?_)
  · have h := zif h c
    refine z_sipush (v := (-999 : Int32)) dX8_slopeOf_20 (by decide) rfl ?_
    refine z_sipush (v := (999 : Int32)) dX8_slopeOf_23 (by decide) rfl ?_
    refine z_bipush (v := (100 : Int32)) dX8_slopeOf_26 (by decide) rfl ?_
    refine z_iload_n (i := 2) dX8_slopeOf_28 rfl rfl rfl ?_
    refine z_imul dX8_slopeOf_29 rfl ?_
    refine z_iload_n (i := 3) dX8_slopeOf_30 rfl rfl rfl ?_
    obtain ⟨a1, h⟩ := h
    refine z_fdiv m_X8_216 a1 dX8_slopeOf_31 (Nat.le_of_ble_eq_true rfl) rfl ?_
    refine z_mmin m_X8_165 dX8_slopeOf_34 (Nat.le_of_ble_eq_true rfl) rfl ?_
    refine z_mmax m_X8_171 dX8_slopeOf_37 (Nat.le_of_ble_eq_true rfl) rfl ?_
    exact z_ret (some (.int (zmax (-999 : Int32) (zmin (999 : Int32) (zfd ((100 : Int32) * p2) ((zabs p0) + (zabs p1))))))) (Or.inr (Or.inl ⟨_, _, rfl, rfl, rfl, dX8_slopeOf_40⟩)) zN200 ⟨_, rfl, h⟩
  · have h := zit h c
    refine z_sipush (v := (999 : Int32)) dX8_slopeOf_14 (by decide) rfl ?_
    refine z_goto (pn := 40) dX8_slopeOf_17 (by decide) ?_
    exact z_ret (some (.int (999 : Int32))) (Or.inr (Or.inl ⟨_, _, rfl, rfl, rfl, dX8_slopeOf_40⟩)) zN200 ⟨_, rfl, h⟩
theorem dX8_eye_0 : decode cX8_eye 0 = .ok (.aload_n 0, 1) := by decide +kernel
theorem dX8_eye_1 : decode cX8_eye 1 = .ok (.aload_n 0, 1) := by decide +kernel
theorem dX8_eye_2 : decode cX8_eye 2 = .ok (.getfield 25, 3) := by decide +kernel
theorem dX8_eye_5 : decode cX8_eye 5 = .ok (.iload_n 1, 1) := by decide +kernel
theorem dX8_eye_6 : decode cX8_eye 6 = .ok (.iaload, 1) := by decide +kernel
theorem dX8_eye_7 : decode cX8_eye 7 = .ok (.aload_n 0, 1) := by decide +kernel
theorem dX8_eye_8 : decode cX8_eye 8 = .ok (.getfield 28, 3) := by decide +kernel
theorem dX8_eye_11 : decode cX8_eye 11 = .ok (.iload_n 1, 1) := by decide +kernel
theorem dX8_eye_12 : decode cX8_eye 12 = .ok (.iaload, 1) := by decide +kernel
theorem dX8_eye_13 : decode cX8_eye 13 = .ok (.invokevirtual 177, 3) := by decide +kernel
theorem dX8_eye_16 : decode cX8_eye 16 = .ok (.iconst 1, 1) := by decide +kernel
theorem dX8_eye_17 : decode cX8_eye 17 = .ok (.iadd, 1) := by decide +kernel
theorem dX8_eye_18 : decode cX8_eye 18 = .ok (.ireturn, 1) := by decide +kernel
set_option maxHeartbeats 4000000 in
set_option maxRecDepth 100000 in
theorem t_X8_eye {l : Launch} {g : zG} {d : Nat} {s : zS} (hR : zRok s) {p0 : Int32} {K : Int32 → zS → Prop} (h : (vp_in p0 20 ∧ (vp_in p0 20 ∧ (zc l g d M_X8_groundAt [.ref 164, .int (s.1 170 p0.toNatClampNeg), .int (s.1 171 p0.toNatClampNeg)] s (zKi (fun r4 s3 => s3.2.2.1 = s.2.2.1 ∧ K (r4 + (1 : Int32)) s3)))))) : zc l g (d + 1) M_X8_eye [.ref 164, .int p0] s (zKi K) := by
  refine zCall_of k_X8_eye (Nat.le_of_ble_eq_true rfl) (Nat.le_refl _) (fun _ => ?_)
  show zt l g (d + 1) M_X8_eye 0 [.ref 164, .int p0] [] s (zKi K)
  refine z_aload_n (i := 0) dX8_eye_0 rfl rfl rfl ?_
  refine z_aload_n (i := 0) dX8_eye_1 rfl rfl rfl ?_
  refine z_getR (q := 170) f_X8_25 i_164 rfl (r_164_5 hR) (by decide) dX8_eye_2 rfl ?_
  refine z_iload_n (i := 1) dX8_eye_5 rfl rfl rfl ?_
  obtain ⟨a1, h⟩ := h
  have wa1 := vin a1
  refine z_iald (x := s.1 170 p0.toNatClampNeg) rfl a_170 a1 dX8_eye_6 rfl ?_
  refine z_aload_n (i := 0) dX8_eye_7 rfl rfl rfl ?_
  refine z_getR (q := 171) f_X8_28 i_164 rfl (r_164_6 hR) (by decide) dX8_eye_8 rfl ?_
  refine z_iload_n (i := 1) dX8_eye_11 rfl rfl rfl ?_
  obtain ⟨a2, h⟩ := h
  have wa2 := vin a2
  refine z_iald (x := s.1 171 p0.toNatClampNeg) rfl a_171 a2 dX8_eye_12 rfl ?_
  refine z_callV k_X8_groundAt m_X8_177 (zRec_of i_164) rfl h rfl (Nat.le_of_ble_eq_true rfl) dX8_eye_13 zy200 rfl ?_
  rintro v s3 ⟨r4, rfl, hRs3, h⟩
  show zt l g (d + 1) M_X8_eye 16 [.ref 164, .int p0] [.int r4] s3 _
  refine z_iconst (v := (1 : Int32)) dX8_eye_16 (by decide) rfl ?_
  refine z_iadd dX8_eye_17 rfl ?_
  exact z_ret (some (.int (r4 + (1 : Int32)))) (Or.inr (Or.inl ⟨_, _, rfl, rfl, rfl, dX8_eye_18⟩)) zN200 ⟨_, rfl, h⟩
theorem dX8_hider_0 : decode cX8_hider 0 = .ok (.aload_n 0, 1) := by decide +kernel
theorem dX8_hider_1 : decode cX8_hider 1 = .ok (.iload_n 1, 1) := by decide +kernel
theorem dX8_hider_2 : decode cX8_hider 2 = .ok (.invokevirtual 233, 3) := by decide +kernel
theorem dX8_hider_5 : decode cX8_hider 5 = .ok (.istore 5, 2) := by decide +kernel
theorem dX8_hider_7 : decode cX8_hider 7 = .ok (.iload_n 2, 1) := by decide +kernel
theorem dX8_hider_8 : decode cX8_hider 8 = .ok (.aload_n 0, 1) := by decide +kernel
theorem dX8_hider_9 : decode cX8_hider 9 = .ok (.getfield 25, 3) := by decide +kernel
theorem dX8_hider_12 : decode cX8_hider 12 = .ok (.iload_n 1, 1) := by decide +kernel
theorem dX8_hider_13 : decode cX8_hider 13 = .ok (.iaload, 1) := by decide +kernel
theorem dX8_hider_14 : decode cX8_hider 14 = .ok (.isub, 1) := by decide +kernel
theorem dX8_hider_15 : decode cX8_hider 15 = .ok (.istore 6, 2) := by decide +kernel
theorem dX8_hider_17 : decode cX8_hider 17 = .ok (.iload_n 3, 1) := by decide +kernel
theorem dX8_hider_18 : decode cX8_hider 18 = .ok (.aload_n 0, 1) := by decide +kernel
theorem dX8_hider_19 : decode cX8_hider 19 = .ok (.getfield 28, 3) := by decide +kernel
theorem dX8_hider_22 : decode cX8_hider 22 = .ok (.iload_n 1, 1) := by decide +kernel
theorem dX8_hider_23 : decode cX8_hider 23 = .ok (.iaload, 1) := by decide +kernel
theorem dX8_hider_24 : decode cX8_hider 24 = .ok (.isub, 1) := by decide +kernel
theorem dX8_hider_25 : decode cX8_hider 25 = .ok (.istore 7, 2) := by decide +kernel
theorem dX8_hider_27 : decode cX8_hider 27 = .ok (.iconst 1, 1) := by decide +kernel
theorem dX8_hider_28 : decode cX8_hider 28 = .ok (.istore 8, 2) := by decide +kernel
theorem dX8_hider_30 : decode cX8_hider 30 = .ok (.iload 8, 2) := by decide +kernel
theorem dX8_hider_32 : decode cX8_hider 32 = .ok (.bipush 16, 2) := by decide +kernel
theorem dX8_hider_34 : decode cX8_hider 34 = .ok (.if_icmp .ge 83, 3) := by decide +kernel
theorem dX8_hider_37 : decode cX8_hider 37 = .ok (.aload_n 0, 1) := by decide +kernel
theorem dX8_hider_38 : decode cX8_hider 38 = .ok (.getfield 25, 3) := by decide +kernel
theorem dX8_hider_41 : decode cX8_hider 41 = .ok (.iload_n 1, 1) := by decide +kernel
theorem dX8_hider_42 : decode cX8_hider 42 = .ok (.iaload, 1) := by decide +kernel
theorem dX8_hider_43 : decode cX8_hider 43 = .ok (.iload 6, 2) := by decide +kernel
theorem dX8_hider_45 : decode cX8_hider 45 = .ok (.iload 8, 2) := by decide +kernel
theorem dX8_hider_47 : decode cX8_hider 47 = .ok (.imul, 1) := by decide +kernel
theorem dX8_hider_48 : decode cX8_hider 48 = .ok (.bipush 16, 2) := by decide +kernel
theorem dX8_hider_50 : decode cX8_hider 50 = .ok (.invokestatic 216, 3) := by decide +kernel
theorem dX8_hider_53 : decode cX8_hider 53 = .ok (.iadd, 1) := by decide +kernel
theorem dX8_hider_54 : decode cX8_hider 54 = .ok (.istore 9, 2) := by decide +kernel
theorem dX8_hider_56 : decode cX8_hider 56 = .ok (.aload_n 0, 1) := by decide +kernel
theorem dX8_hider_57 : decode cX8_hider 57 = .ok (.getfield 28, 3) := by decide +kernel
theorem dX8_hider_60 : decode cX8_hider 60 = .ok (.iload_n 1, 1) := by decide +kernel
theorem dX8_hider_61 : decode cX8_hider 61 = .ok (.iaload, 1) := by decide +kernel
theorem dX8_hider_62 : decode cX8_hider 62 = .ok (.iload 7, 2) := by decide +kernel
theorem dX8_hider_64 : decode cX8_hider 64 = .ok (.iload 8, 2) := by decide +kernel
theorem dX8_hider_66 : decode cX8_hider 66 = .ok (.imul, 1) := by decide +kernel
theorem dX8_hider_67 : decode cX8_hider 67 = .ok (.bipush 16, 2) := by decide +kernel
theorem dX8_hider_69 : decode cX8_hider 69 = .ok (.invokestatic 216, 3) := by decide +kernel
theorem dX8_hider_72 : decode cX8_hider 72 = .ok (.iadd, 1) := by decide +kernel
theorem dX8_hider_73 : decode cX8_hider 73 = .ok (.istore 10, 2) := by decide +kernel
theorem dX8_hider_75 : decode cX8_hider 75 = .ok (.aload_n 0, 1) := by decide +kernel
theorem dX8_hider_76 : decode cX8_hider 76 = .ok (.iload 9, 2) := by decide +kernel
theorem dX8_hider_78 : decode cX8_hider 78 = .ok (.iload 10, 2) := by decide +kernel
theorem dX8_hider_80 : decode cX8_hider 80 = .ok (.invokevirtual 177, 3) := by decide +kernel
theorem dX8_hider_83 : decode cX8_hider 83 = .ok (.iload 5, 2) := by decide +kernel
theorem dX8_hider_85 : decode cX8_hider 85 = .ok (.iload 4, 2) := by decide +kernel
theorem dX8_hider_87 : decode cX8_hider 87 = .ok (.iload 5, 2) := by decide +kernel
theorem dX8_hider_89 : decode cX8_hider 89 = .ok (.isub, 1) := by decide +kernel
theorem dX8_hider_90 : decode cX8_hider 90 = .ok (.iload 8, 2) := by decide +kernel
theorem dX8_hider_92 : decode cX8_hider 92 = .ok (.imul, 1) := by decide +kernel
theorem dX8_hider_93 : decode cX8_hider 93 = .ok (.bipush 16, 2) := by decide +kernel
theorem dX8_hider_95 : decode cX8_hider 95 = .ok (.invokestatic 216, 3) := by decide +kernel
theorem dX8_hider_98 : decode cX8_hider 98 = .ok (.iadd, 1) := by decide +kernel
theorem dX8_hider_99 : decode cX8_hider 99 = .ok (.if_icmp .le 12, 3) := by decide +kernel
theorem dX8_hider_102 : decode cX8_hider 102 = .ok (.aload_n 0, 1) := by decide +kernel
theorem dX8_hider_103 : decode cX8_hider 103 = .ok (.iload 9, 2) := by decide +kernel
theorem dX8_hider_105 : decode cX8_hider 105 = .ok (.iload 10, 2) := by decide +kernel
theorem dX8_hider_107 : decode cX8_hider 107 = .ok (.invokevirtual 174, 3) := by decide +kernel
theorem dX8_hider_110 : decode cX8_hider 110 = .ok (.ireturn, 1) := by decide +kernel
theorem dX8_hider_111 : decode cX8_hider 111 = .ok (.iinc 8 1, 3) := by decide +kernel
theorem dX8_hider_114 : decode cX8_hider 114 = .ok (.goto (-84), 3) := by decide +kernel
theorem dX8_hider_117 : decode cX8_hider 117 = .ok (.iconst (-1), 1) := by decide +kernel
theorem dX8_hider_118 : decode cX8_hider 118 = .ok (.ireturn, 1) := by decide +kernel
set_option maxHeartbeats 4000000 in
set_option maxRecDepth 100000 in
theorem t_X8_hider {l : Launch} {g : zG} {d : Nat} {s : zS} (hR : zRok s) {p0 : Int32} {p1 : Int32} {p2 : Int32} {p3 : Int32} {K : Int32 → zS → Prop} (h : (zc l g d M_X8_eye [.ref 164, .int p0] s (zKi (fun r2 s1 => s1.2.2.1 = s.2.2.1 ∧ (vp_in p0 20 ∧ (∀ v4 : Int32, v4 = p1 - (s1.1 170 p0.toNatClampNeg) → (vp_in p0 20 ∧ (∀ v6 : Int32, v6 = p2 - (s1.1 171 p0.toNatClampNeg) → zt l g (d + 1) M_X8_hider 30 [.ref 164, .int p0, zJ, zJ, .int p3, .int r2, .int v4, .int v6, .int (1 : Int32), zJ, zJ] [] s1 (zKi K))))))))) : zc l g (d + 1) M_X8_hider [.ref 164, .int p0, .int p1, .int p2, .int p3] s (zKi K) := by
  refine zCall_of k_X8_hider (Nat.le_of_ble_eq_true rfl) (Nat.le_refl _) (fun _ => ?_)
  show zt l g (d + 1) M_X8_hider 0 [.ref 164, .int p0, .int p1, .int p2, .int p3, zJ, zJ, zJ, zJ, zJ, zJ] [] s (zKi K)
  refine z_aload_n (i := 0) dX8_hider_0 rfl rfl rfl ?_
  refine z_iload_n (i := 1) dX8_hider_1 rfl rfl rfl ?_
  refine z_callV k_X8_eye m_X8_233 (zRec_of i_164) rfl h rfl (Nat.le_of_ble_eq_true rfl) dX8_hider_2 zy200 rfl ?_
  rintro v s1 ⟨r2, rfl, hRs1, h⟩
  show zt l g (d + 1) M_X8_hider 5 [.ref 164, .int p0, .int p1, .int p2, .int p3, zJ, zJ, zJ, zJ, zJ, zJ] [.int r2] s1 _
  refine z_istore dX8_hider_5 (by decide) (zokd rfl) rfl ?_
  show zt l g (d + 1) M_X8_hider 7 [.ref 164, .int p0, .int p1, .int p2, .int p3, .int r2, zJ, zJ, zJ, zJ, zJ] [] s1 _
  refine z_iload_n (i := 2) dX8_hider_7 rfl rfl rfl ?_
  refine z_aload_n (i := 0) dX8_hider_8 rfl rfl rfl ?_
  refine z_getR (q := 170) f_X8_25 i_164 rfl (r_164_5 (zRok_of hRs1 hR)) (by decide) dX8_hider_9 rfl ?_
  refine z_iload_n (i := 1) dX8_hider_12 rfl rfl rfl ?_
  obtain ⟨a3, h⟩ := h
  have wa3 := vin a3
  refine z_iald (x := s1.1 170 p0.toNatClampNeg) rfl a_170 a3 dX8_hider_13 rfl ?_
  refine z_isub dX8_hider_14 rfl ?_
  refine z_istore dX8_hider_15 (by decide) (zokd rfl) rfl ?_
  obtain ⟨v4, ev4⟩ : ∃ x : Int32, x = p1 - (s1.1 170 p0.toNatClampNeg) := ⟨_, rfl⟩
  rw [← ev4]
  have h := h v4 ev4
  show zt l g (d + 1) M_X8_hider 17 [.ref 164, .int p0, .int p1, .int p2, .int p3, .int r2, .int v4, zJ, zJ, zJ, zJ] [] s1 _
  refine z_iload_n (i := 3) dX8_hider_17 rfl rfl rfl ?_
  refine z_aload_n (i := 0) dX8_hider_18 rfl rfl rfl ?_
  refine z_getR (q := 171) f_X8_28 i_164 rfl (r_164_6 (zRok_of hRs1 hR)) (by decide) dX8_hider_19 rfl ?_
  refine z_iload_n (i := 1) dX8_hider_22 rfl rfl rfl ?_
  obtain ⟨a5, h⟩ := h
  have wa5 := vin a5
  refine z_iald (x := s1.1 171 p0.toNatClampNeg) rfl a_171 a5 dX8_hider_23 rfl ?_
  refine z_isub dX8_hider_24 rfl ?_
  refine z_istore dX8_hider_25 (by decide) (zokd rfl) rfl ?_
  obtain ⟨v6, ev6⟩ : ∃ x : Int32, x = p2 - (s1.1 171 p0.toNatClampNeg) := ⟨_, rfl⟩
  rw [← ev6]
  have h := h v6 ev6
  show zt l g (d + 1) M_X8_hider 27 [.ref 164, .int p0, .int p1, .int p2, .int p3, .int r2, .int v4, .int v6, zJ, zJ, zJ] [] s1 _
  refine z_iconst (v := (1 : Int32)) dX8_hider_27 (by decide) rfl ?_
  refine z_istore dX8_hider_28 (by decide) (zokd rfl) rfl ?_
  show zt l g (d + 1) M_X8_hider 30 [.ref 164, .int p0, .int p1, .int p2, .int p3, .int r2, .int v4, .int v6, .int (1 : Int32), zJ, zJ] [] s1 _
  refine z_wk (ls' := [.ref 164, .int p0, zJ, zJ, .int p3, .int r2, .int v4, .int v6, .int (1 : Int32), zJ, zJ]) ⟨Or.inr rfl, Or.inr rfl, Or.inl rfl, Or.inl rfl, Or.inr rfl, Or.inr rfl, Or.inr rfl, Or.inr rfl, Or.inr rfl, Or.inr rfl, Or.inr rfl, trivial⟩ ?_
  exact h
set_option maxHeartbeats 4000000 in
set_option maxRecDepth 100000 in
theorem t_X8_hider_30 {l : Launch} {g : zG} {d : Nat} {s : zS} (hR : zRok s) {x1 : Int32} {x4 : Int32} {x5 : Int32} {x6 : Int32} {x7 : Int32} {x8 : Int32} {K : Int32 → zS → Prop} (h : (if (16 : Int32) ≤ x8 then K (-1 : Int32) s else (vp_in x1 20 ∧ (∀ v2 : Int32, v2 = (s.1 170 x1.toNatClampNeg) + (zfd (x6 * x8) (16 : Int32)) → (vp_in x1 20 ∧ (∀ v4 : Int32, v4 = (s.1 171 x1.toNatClampNeg) + (zfd (x7 * x8) (16 : Int32)) → (zc l g d M_X8_groundAt [.ref 164, .int v2, .int v4] s (zKi (fun r6 s5 => s5.2.2.1 = s.2.2.1 ∧ (if r6 ≤ (x5 + (zfd ((x4 - x5) * x8) (16 : Int32))) then zt l g (d + 1) M_X8_hider 30 [.ref 164, .int x1, zJ, zJ, .int x4, .int x5, .int x6, .int x7, .int (x8 + (1 : Int32)), zJ, zJ] [] s5 (zKi K) else (zc l g d M_X8_hillAt [.ref 164, .int v2, .int v4] s5 (zKi (fun r8 s7 => s7.2.2.1 = s5.2.2.1 ∧ K r8 s7))))))))))))) : zt l g (d + 1) M_X8_hider 30 [.ref 164, .int x1, zJ, zJ, .int x4, .int x5, .int x6, .int x7, .int x8, zJ, zJ] [] s (zKi K) := by
  refine z_iload dX8_hider_30 rfl rfl ?_
  refine z_bipush (v := (16 : Int32)) dX8_hider_32 (by decide) rfl ?_
  refine z_icmp_ge (pt := 117) dX8_hider_34 (by decide) rfl (fun c => ?_) (fun c => ?_)
  · have h := zit h c
    refine z_iconst (v := (-1 : Int32)) dX8_hider_117 (by decide) rfl ?_
    exact z_ret (some (.int (-1 : Int32))) (Or.inr (Or.inl ⟨_, _, rfl, rfl, rfl, dX8_hider_118⟩)) zN200 ⟨_, rfl, h⟩
  · have h := zif h c
    refine z_aload_n (i := 0) dX8_hider_37 rfl rfl rfl ?_
    refine z_getR (q := 170) f_X8_25 i_164 rfl (r_164_5 hR) (by decide) dX8_hider_38 rfl ?_
    refine z_iload_n (i := 1) dX8_hider_41 rfl rfl rfl ?_
    obtain ⟨a1, h⟩ := h
    have wa1 := vin a1
    refine z_iald (x := s.1 170 x1.toNatClampNeg) rfl a_170 a1 dX8_hider_42 rfl ?_
    refine z_iload dX8_hider_43 rfl rfl ?_
    refine z_iload dX8_hider_45 rfl rfl ?_
    refine z_imul dX8_hider_47 rfl ?_
    refine z_bipush (v := (16 : Int32)) dX8_hider_48 (by decide) rfl ?_
    refine z_fdiv m_X8_216 (by decide) dX8_hider_50 (Nat.le_of_ble_eq_true rfl) rfl ?_
    refine z_iadd dX8_hider_53 rfl ?_
    refine z_istore dX8_hider_54 (by decide) (zokd rfl) rfl ?_
    obtain ⟨v2, ev2⟩ : ∃ x : Int32, x = (s.1 170 x1.toNatClampNeg) + (zfd (x6 * x8) (16 : Int32)) := ⟨_, rfl⟩
    rw [← ev2]
    have h := h v2 ev2
    show zt l g (d + 1) M_X8_hider 56 [.ref 164, .int x1, zJ, zJ, .int x4, .int x5, .int x6, .int x7, .int x8, .int v2, zJ] [] s _
    refine z_aload_n (i := 0) dX8_hider_56 rfl rfl rfl ?_
    refine z_getR (q := 171) f_X8_28 i_164 rfl (r_164_6 hR) (by decide) dX8_hider_57 rfl ?_
    refine z_iload_n (i := 1) dX8_hider_60 rfl rfl rfl ?_
    obtain ⟨a3, h⟩ := h
    have wa3 := vin a3
    refine z_iald (x := s.1 171 x1.toNatClampNeg) rfl a_171 a3 dX8_hider_61 rfl ?_
    refine z_iload dX8_hider_62 rfl rfl ?_
    refine z_iload dX8_hider_64 rfl rfl ?_
    refine z_imul dX8_hider_66 rfl ?_
    refine z_bipush (v := (16 : Int32)) dX8_hider_67 (by decide) rfl ?_
    refine z_fdiv m_X8_216 (by decide) dX8_hider_69 (Nat.le_of_ble_eq_true rfl) rfl ?_
    refine z_iadd dX8_hider_72 rfl ?_
    refine z_istore dX8_hider_73 (by decide) (zokd rfl) rfl ?_
    obtain ⟨v4, ev4⟩ : ∃ x : Int32, x = (s.1 171 x1.toNatClampNeg) + (zfd (x7 * x8) (16 : Int32)) := ⟨_, rfl⟩
    rw [← ev4]
    have h := h v4 ev4
    show zt l g (d + 1) M_X8_hider 75 [.ref 164, .int x1, zJ, zJ, .int x4, .int x5, .int x6, .int x7, .int x8, .int v2, .int v4] [] s _
    refine z_aload_n (i := 0) dX8_hider_75 rfl rfl rfl ?_
    refine z_iload dX8_hider_76 rfl rfl ?_
    refine z_iload dX8_hider_78 rfl rfl ?_
    refine z_callV k_X8_groundAt m_X8_177 (zRec_of i_164) rfl h rfl (Nat.le_of_ble_eq_true rfl) dX8_hider_80 zy200 rfl ?_
    rintro v s5 ⟨r6, rfl, hRs5, h⟩
    show zt l g (d + 1) M_X8_hider 83 [.ref 164, .int x1, zJ, zJ, .int x4, .int x5, .int x6, .int x7, .int x8, .int v2, .int v4] [.int r6] s5 _
    refine z_iload dX8_hider_83 rfl rfl ?_
    refine z_iload dX8_hider_85 rfl rfl ?_
    refine z_iload dX8_hider_87 rfl rfl ?_
    refine z_isub dX8_hider_89 rfl ?_
    refine z_iload dX8_hider_90 rfl rfl ?_
    refine z_imul dX8_hider_92 rfl ?_
    refine z_bipush (v := (16 : Int32)) dX8_hider_93 (by decide) rfl ?_
    refine z_fdiv m_X8_216 (by decide) dX8_hider_95 (Nat.le_of_ble_eq_true rfl) rfl ?_
    refine z_iadd dX8_hider_98 rfl ?_
    refine z_icmp_le (pt := 111) dX8_hider_99 (by decide) rfl (fun c => ?_) (fun c => ?_)
    · have h := zit h c
      refine z_iinc (v := x8 + (1 : Int32)) dX8_hider_111 rfl rfl (by decide) (zokd rfl) rfl ?_
      show zt l g (d + 1) M_X8_hider 114 [.ref 164, .int x1, zJ, zJ, .int x4, .int x5, .int x6, .int x7, .int (x8 + (1 : Int32)), .int v2, .int v4] [] s5 _
      refine z_goto (pn := 30) dX8_hider_114 (by decide) ?_
      refine z_wk (ls' := [.ref 164, .int x1, zJ, zJ, .int x4, .int x5, .int x6, .int x7, .int (x8 + (1 : Int32)), zJ, zJ]) ⟨Or.inr rfl, Or.inr rfl, Or.inr rfl, Or.inr rfl, Or.inr rfl, Or.inr rfl, Or.inr rfl, Or.inr rfl, Or.inr rfl, Or.inl rfl, Or.inl rfl, trivial⟩ ?_
      exact h
    · have h := zif h c
      refine z_aload_n (i := 0) dX8_hider_102 rfl rfl rfl ?_
      refine z_iload dX8_hider_103 rfl rfl ?_
      refine z_iload dX8_hider_105 rfl rfl ?_
      refine z_callV k_X8_hillAt m_X8_174 (zRec_of i_164) rfl h rfl (Nat.le_of_ble_eq_true rfl) dX8_hider_107 zy200 rfl ?_
      rintro v s7 ⟨r8, rfl, hRs7, h⟩
      show zt l g (d + 1) M_X8_hider 110 [.ref 164, .int x1, zJ, zJ, .int x4, .int x5, .int x6, .int x7, .int x8, .int v2, .int v4] [.int r8] s7 _
      exact z_ret (some (.int r8)) (Or.inr (Or.inl ⟨_, _, rfl, rfl, rfl, dX8_hider_110⟩)) zN200 ⟨_, rfl, h⟩
theorem dX8_isLit_0 : decode cX8_isLit 0 = .ok (.aload_n 0, 1) := by decide +kernel
theorem dX8_isLit_1 : decode cX8_isLit 1 = .ok (.getfield 31, 3) := by decide +kernel
theorem dX8_isLit_4 : decode cX8_isLit 4 = .ok (.iload_n 1, 1) := by decide +kernel
theorem dX8_isLit_5 : decode cX8_isLit 5 = .ok (.iaload, 1) := by decide +kernel
theorem dX8_isLit_6 : decode cX8_isLit 6 = .ok (.ifCond .ne 5, 3) := by decide +kernel
theorem dX8_isLit_9 : decode cX8_isLit 9 = .ok (.iconst 1, 1) := by decide +kernel
theorem dX8_isLit_10 : decode cX8_isLit 10 = .ok (.ireturn, 1) := by decide +kernel
theorem dX8_isLit_11 : decode cX8_isLit 11 = .ok (.aload_n 0, 1) := by decide +kernel
theorem dX8_isLit_12 : decode cX8_isLit 12 = .ok (.iload_n 1, 1) := by decide +kernel
theorem dX8_isLit_13 : decode cX8_isLit 13 = .ok (.iload_n 2, 1) := by decide +kernel
theorem dX8_isLit_14 : decode cX8_isLit 14 = .ok (.invokevirtual 225, 3) := by decide +kernel
theorem dX8_isLit_17 : decode cX8_isLit 17 = .ok (.ifCond .eq 34, 3) := by decide +kernel
theorem dX8_isLit_20 : decode cX8_isLit 20 = .ok (.aload_n 0, 1) := by decide +kernel
theorem dX8_isLit_21 : decode cX8_isLit 21 = .ok (.getfield 31, 3) := by decide +kernel
theorem dX8_isLit_24 : decode cX8_isLit 24 = .ok (.iload_n 1, 1) := by decide +kernel
theorem dX8_isLit_25 : decode cX8_isLit 25 = .ok (.iaload, 1) := by decide +kernel
theorem dX8_isLit_26 : decode cX8_isLit 26 = .ok (.iconst 3, 1) := by decide +kernel
theorem dX8_isLit_27 : decode cX8_isLit 27 = .ok (.if_icmp .ne 20, 3) := by decide +kernel
theorem dX8_isLit_30 : decode cX8_isLit 30 = .ok (.iload_n 2, 1) := by decide +kernel
theorem dX8_isLit_31 : decode cX8_isLit 31 = .ok (.aload_n 0, 1) := by decide +kernel
theorem dX8_isLit_32 : decode cX8_isLit 32 = .ok (.getfield 55, 3) := by decide +kernel
theorem dX8_isLit_35 : decode cX8_isLit 35 = .ok (.iload_n 1, 1) := by decide +kernel
theorem dX8_isLit_36 : decode cX8_isLit 36 = .ok (.iaload, 1) := by decide +kernel
theorem dX8_isLit_37 : decode cX8_isLit 37 = .ok (.irem, 1) := by decide +kernel
theorem dX8_isLit_38 : decode cX8_isLit 38 = .ok (.aload_n 0, 1) := by decide +kernel
theorem dX8_isLit_39 : decode cX8_isLit 39 = .ok (.getfield 58, 3) := by decide +kernel
theorem dX8_isLit_42 : decode cX8_isLit 42 = .ok (.iload_n 1, 1) := by decide +kernel
theorem dX8_isLit_43 : decode cX8_isLit 43 = .ok (.iaload, 1) := by decide +kernel
theorem dX8_isLit_44 : decode cX8_isLit 44 = .ok (.if_icmp .ne 7, 3) := by decide +kernel
theorem dX8_isLit_47 : decode cX8_isLit 47 = .ok (.iconst 1, 1) := by decide +kernel
theorem dX8_isLit_48 : decode cX8_isLit 48 = .ok (.goto 4, 3) := by decide +kernel
theorem dX8_isLit_51 : decode cX8_isLit 51 = .ok (.iconst 0, 1) := by decide +kernel
theorem dX8_isLit_52 : decode cX8_isLit 52 = .ok (.ireturn, 1) := by decide +kernel
set_option maxHeartbeats 4000000 in
set_option maxRecDepth 100000 in
theorem t_X8_isLit {l : Launch} {g : zG} {d : Nat} {s : zS} (hR : zRok s) {p0 : Int32} {p1 : Int32} {K : Bool → zS → Prop} (h : (vp_in p0 12 ∧ (if (s.1 172 p0.toNatClampNeg) = 0 then K true s else (zc l g d M_X8_isAt [.ref 164, .int p0, .int p1] s (zKz (fun b3 s2 => s2.2.2.1 = s.2.2.1 ∧ (if b3 = true then (vp_in p0 12 ∧ (if (s2.1 172 p0.toNatClampNeg) = (3 : Int32) then (vp_in p0 12 ∧ (¬ (s2.1 180 p0.toNatClampNeg) = 0 ∧ (vp_in p0 12 ∧ (if (p1 % (s2.1 180 p0.toNatClampNeg)) = (s2.1 181 p0.toNatClampNeg) then K true s2 else K false s2)))) else K true s2)) else K false s2))))))) : zc l g (d + 1) M_X8_isLit [.ref 164, .int p0, .int p1] s (zKz K) := by
  refine zCall_of k_X8_isLit (Nat.le_of_ble_eq_true rfl) (Nat.le_refl _) (fun _ => ?_)
  show zt l g (d + 1) M_X8_isLit 0 [.ref 164, .int p0, .int p1] [] s (zKz K)
  refine z_aload_n (i := 0) dX8_isLit_0 rfl rfl rfl ?_
  refine z_getR (q := 172) f_X8_31 i_164 rfl (r_164_7 hR) (by decide) dX8_isLit_1 rfl ?_
  refine z_iload_n (i := 1) dX8_isLit_4 rfl rfl rfl ?_
  obtain ⟨a1, h⟩ := h
  have wa1 := vin a1
  refine z_iald (x := s.1 172 p0.toNatClampNeg) rfl a_172 a1 dX8_isLit_5 rfl ?_
  refine z_if_ne (pt := 11) dX8_isLit_6 (by decide) rfl (fun c => ?_) (fun c => ?_)
  · have h := zif h c
    refine z_aload_n (i := 0) dX8_isLit_11 rfl rfl rfl ?_
    refine z_iload_n (i := 1) dX8_isLit_12 rfl rfl rfl ?_
    refine z_iload_n (i := 2) dX8_isLit_13 rfl rfl rfl ?_
    refine z_callV k_X8_isAt m_X8_225 (zRec_of i_164) rfl h rfl (Nat.le_of_ble_eq_true rfl) dX8_isLit_14 zy200 rfl ?_
    rintro v s2 ⟨b3, rfl, hRs2, h⟩
    show zt l g (d + 1) M_X8_isLit 17 [.ref 164, .int p0, .int p1] [.int (zb b3)] s2 _
    refine z_ifb_eq (pt := 51) dX8_isLit_17 (by decide) rfl (fun c => ?_) (fun c => ?_)
    · have h := zif h (by rw [c]; exact Bool.false_ne_true)
      refine z_iconst (v := (0 : Int32)) dX8_isLit_51 (by decide) rfl ?_
      exact z_ret (some (.int (zb false))) (Or.inr (Or.inl ⟨_, _, rfl, rfl, zb_nar _, dX8_isLit_52⟩)) zN200 ⟨_, rfl, h⟩
    · have h := zit h c
      refine z_aload_n (i := 0) dX8_isLit_20 rfl rfl rfl ?_
      refine z_getR (q := 172) f_X8_31 i_164 rfl (r_164_7 (zRok_of hRs2 hR)) (by decide) dX8_isLit_21 rfl ?_
      refine z_iload_n (i := 1) dX8_isLit_24 rfl rfl rfl ?_
      obtain ⟨a4, h⟩ := h
      have wa4 := vin a4
      refine z_iald (x := s2.1 172 p0.toNatClampNeg) rfl a_172 a4 dX8_isLit_25 rfl ?_
      refine z_iconst (v := (3 : Int32)) dX8_isLit_26 (by decide) rfl ?_
      refine z_icmp_ne (pt := 47) dX8_isLit_27 (by decide) rfl (fun c => ?_) (fun c => ?_)
      · have h := zif h c
        refine z_iconst (v := (1 : Int32)) dX8_isLit_47 (by decide) rfl ?_
        refine z_goto (pn := 52) dX8_isLit_48 (by decide) ?_
        exact z_ret (some (.int (zb true))) (Or.inr (Or.inl ⟨_, _, rfl, rfl, zb_nar _, dX8_isLit_52⟩)) zN200 ⟨_, rfl, h⟩
      · have h := zit h c
        refine z_iload_n (i := 2) dX8_isLit_30 rfl rfl rfl ?_
        refine z_aload_n (i := 0) dX8_isLit_31 rfl rfl rfl ?_
        refine z_getR (q := 180) f_X8_55 i_164 rfl (r_164_15 (zRok_of hRs2 hR)) (by decide) dX8_isLit_32 rfl ?_
        refine z_iload_n (i := 1) dX8_isLit_35 rfl rfl rfl ?_
        obtain ⟨a5, h⟩ := h
        have wa5 := vin a5
        refine z_iald (x := s2.1 180 p0.toNatClampNeg) rfl a_180 a5 dX8_isLit_36 rfl ?_
        obtain ⟨a6, h⟩ := h
        refine z_irem dX8_isLit_37 a6 rfl ?_
        refine z_aload_n (i := 0) dX8_isLit_38 rfl rfl rfl ?_
        refine z_getR (q := 181) f_X8_58 i_164 rfl (r_164_16 (zRok_of hRs2 hR)) (by decide) dX8_isLit_39 rfl ?_
        refine z_iload_n (i := 1) dX8_isLit_42 rfl rfl rfl ?_
        obtain ⟨a7, h⟩ := h
        have wa7 := vin a7
        refine z_iald (x := s2.1 181 p0.toNatClampNeg) rfl a_181 a7 dX8_isLit_43 rfl ?_
        refine z_icmp_ne (pt := 51) dX8_isLit_44 (by decide) rfl (fun c => ?_) (fun c => ?_)
        · have h := zif h c
          refine z_iconst (v := (0 : Int32)) dX8_isLit_51 (by decide) rfl ?_
          exact z_ret (some (.int (zb false))) (Or.inr (Or.inl ⟨_, _, rfl, rfl, zb_nar _, dX8_isLit_52⟩)) zN200 ⟨_, rfl, h⟩
        · have h := zit h c
          refine z_iconst (v := (1 : Int32)) dX8_isLit_47 (by decide) rfl ?_
          refine z_goto (pn := 52) dX8_isLit_48 (by decide) ?_
          exact z_ret (some (.int (zb true))) (Or.inr (Or.inl ⟨_, _, rfl, rfl, zb_nar _, dX8_isLit_52⟩)) zN200 ⟨_, rfl, h⟩
  · have h := zit h c
    refine z_iconst (v := (1 : Int32)) dX8_isLit_9 (by decide) rfl ?_
    exact z_ret (some (.int (zb true))) (Or.inr (Or.inl ⟨_, _, rfl, rfl, zb_nar _, dX8_isLit_10⟩)) zN200 ⟨_, rfl, h⟩
theorem dX8_isShown_0 : decode cX8_isShown 0 = .ok (.aload_n 0, 1) := by decide +kernel
theorem dX8_isShown_1 : decode cX8_isShown 1 = .ok (.iload_n 1, 1) := by decide +kernel
theorem dX8_isShown_2 : decode cX8_isShown 2 = .ok (.iload_n 3, 1) := by decide +kernel
theorem dX8_isShown_3 : decode cX8_isShown 3 = .ok (.invokevirtual 236, 3) := by decide +kernel
theorem dX8_isShown_6 : decode cX8_isShown 6 = .ok (.ifCond .eq 37, 3) := by decide +kernel
theorem dX8_isShown_9 : decode cX8_isShown 9 = .ok (.aload_n 0, 1) := by decide +kernel
theorem dX8_isShown_10 : decode cX8_isShown 10 = .ok (.getfield 31, 3) := by decide +kernel
theorem dX8_isShown_13 : decode cX8_isShown 13 = .ok (.iload_n 1, 1) := by decide +kernel
theorem dX8_isShown_14 : decode cX8_isShown 14 = .ok (.iaload, 1) := by decide +kernel
theorem dX8_isShown_15 : decode cX8_isShown 15 = .ok (.ifCond .eq 24, 3) := by decide +kernel
theorem dX8_isShown_18 : decode cX8_isShown 18 = .ok (.aload_n 0, 1) := by decide +kernel
theorem dX8_isShown_19 : decode cX8_isShown 19 = .ok (.iload_n 2, 1) := by decide +kernel
theorem dX8_isShown_20 : decode cX8_isShown 20 = .ok (.aload_n 0, 1) := by decide +kernel
theorem dX8_isShown_21 : decode cX8_isShown 21 = .ok (.getfield 207, 3) := by decide +kernel
theorem dX8_isShown_24 : decode cX8_isShown 24 = .ok (.aload_n 0, 1) := by decide +kernel
theorem dX8_isShown_25 : decode cX8_isShown 25 = .ok (.getfield 210, 3) := by decide +kernel
theorem dX8_isShown_28 : decode cX8_isShown 28 = .ok (.aload_n 0, 1) := by decide +kernel
theorem dX8_isShown_29 : decode cX8_isShown 29 = .ok (.getfield 213, 3) := by decide +kernel
theorem dX8_isShown_32 : decode cX8_isShown 32 = .ok (.invokevirtual 239, 3) := by decide +kernel
theorem dX8_isShown_35 : decode cX8_isShown 35 = .ok (.iconst (-1), 1) := by decide +kernel
theorem dX8_isShown_36 : decode cX8_isShown 36 = .ok (.if_icmp .ne 7, 3) := by decide +kernel
theorem dX8_isShown_39 : decode cX8_isShown 39 = .ok (.iconst 1, 1) := by decide +kernel
theorem dX8_isShown_40 : decode cX8_isShown 40 = .ok (.goto 4, 3) := by decide +kernel
theorem dX8_isShown_43 : decode cX8_isShown 43 = .ok (.iconst 0, 1) := by decide +kernel
theorem dX8_isShown_44 : decode cX8_isShown 44 = .ok (.ireturn, 1) := by decide +kernel
set_option maxHeartbeats 4000000 in
set_option maxRecDepth 100000 in
theorem t_X8_isShown {l : Launch} {g : zG} {d : Nat} {s : zS} (hR : zRok s) {p0 : Int32} {p1 : Int32} {p2 : Int32} {K : Bool → zS → Prop} (h : (zc l g d M_X8_isLit [.ref 164, .int p0, .int p2] s (zKz (fun b2 s1 => s1.2.2.1 = s.2.2.1 ∧ (if b2 = true then (vp_in p0 12 ∧ (if (s1.1 172 p0.toNatClampNeg) = 0 then K true s1 else (zc l g d M_X8_hider [.ref 164, .int p1, .int (s1.1 164 20), .int (s1.1 164 21), .int (s1.1 164 22)] s1 (zKi (fun r5 s4 => s4.2.2.1 = s1.2.2.1 ∧ (if r5 = (-1 : Int32) then K true s4 else K false s4)))))) else K false s1))))) : zc l g (d + 1) M_X8_isShown [.ref 164, .int p0, .int p1, .int p2] s (zKz K) := by
  refine zCall_of k_X8_isShown (Nat.le_of_ble_eq_true rfl) (Nat.le_refl _) (fun _ => ?_)
  show zt l g (d + 1) M_X8_isShown 0 [.ref 164, .int p0, .int p1, .int p2] [] s (zKz K)
  refine z_aload_n (i := 0) dX8_isShown_0 rfl rfl rfl ?_
  refine z_iload_n (i := 1) dX8_isShown_1 rfl rfl rfl ?_
  refine z_iload_n (i := 3) dX8_isShown_2 rfl rfl rfl ?_
  refine z_callV k_X8_isLit m_X8_236 (zRec_of i_164) rfl h rfl (Nat.le_of_ble_eq_true rfl) dX8_isShown_3 zy200 rfl ?_
  rintro v s1 ⟨b2, rfl, hRs1, h⟩
  show zt l g (d + 1) M_X8_isShown 6 [.ref 164, .int p0, .int p1, .int p2] [.int (zb b2)] s1 _
  refine z_ifb_eq (pt := 43) dX8_isShown_6 (by decide) rfl (fun c => ?_) (fun c => ?_)
  · have h := zif h (by rw [c]; exact Bool.false_ne_true)
    refine z_iconst (v := (0 : Int32)) dX8_isShown_43 (by decide) rfl ?_
    exact z_ret (some (.int (zb false))) (Or.inr (Or.inl ⟨_, _, rfl, rfl, zb_nar _, dX8_isShown_44⟩)) zN200 ⟨_, rfl, h⟩
  · have h := zit h c
    refine z_aload_n (i := 0) dX8_isShown_9 rfl rfl rfl ?_
    refine z_getR (q := 172) f_X8_31 i_164 rfl (r_164_7 (zRok_of hRs1 hR)) (by decide) dX8_isShown_10 rfl ?_
    refine z_iload_n (i := 1) dX8_isShown_13 rfl rfl rfl ?_
    obtain ⟨a3, h⟩ := h
    have wa3 := vin a3
    refine z_iald (x := s1.1 172 p0.toNatClampNeg) rfl a_172 a3 dX8_isShown_14 rfl ?_
    refine z_if_eq (pt := 39) dX8_isShown_15 (by decide) rfl (fun c => ?_) (fun c => ?_)
    · have h := zit h c
      refine z_iconst (v := (1 : Int32)) dX8_isShown_39 (by decide) rfl ?_
      refine z_goto (pn := 44) dX8_isShown_40 (by decide) ?_
      exact z_ret (some (.int (zb true))) (Or.inr (Or.inl ⟨_, _, rfl, rfl, zb_nar _, dX8_isShown_44⟩)) zN200 ⟨_, rfl, h⟩
    · have h := zif h c
      refine z_aload_n (i := 0) dX8_isShown_18 rfl rfl rfl ?_
      refine z_iload_n (i := 2) dX8_isShown_19 rfl rfl rfl ?_
      refine z_aload_n (i := 0) dX8_isShown_20 rfl rfl rfl ?_
      refine z_getI (x := s1.1 164 20) rfl f_X8_207 i_164 rfl dX8_isShown_21 rfl ?_
      refine z_aload_n (i := 0) dX8_isShown_24 rfl rfl rfl ?_
      refine z_getI (x := s1.1 164 21) rfl f_X8_210 i_164 rfl dX8_isShown_25 rfl ?_
      refine z_aload_n (i := 0) dX8_isShown_28 rfl rfl rfl ?_
      refine z_getI (x := s1.1 164 22) rfl f_X8_213 i_164 rfl dX8_isShown_29 rfl ?_
      refine z_callV k_X8_hider m_X8_239 (zRec_of i_164) rfl h rfl (Nat.le_of_ble_eq_true rfl) dX8_isShown_32 zy200 rfl ?_
      rintro v s4 ⟨r5, rfl, hRs4, h⟩
      show zt l g (d + 1) M_X8_isShown 35 [.ref 164, .int p0, .int p1, .int p2] [.int r5] s4 _
      refine z_iconst (v := (-1 : Int32)) dX8_isShown_35 (by decide) rfl ?_
      refine z_icmp_ne (pt := 43) dX8_isShown_36 (by decide) rfl (fun c => ?_) (fun c => ?_)
      · have h := zif h c
        refine z_iconst (v := (0 : Int32)) dX8_isShown_43 (by decide) rfl ?_
        exact z_ret (some (.int (zb false))) (Or.inr (Or.inl ⟨_, _, rfl, rfl, zb_nar _, dX8_isShown_44⟩)) zN200 ⟨_, rfl, h⟩
      · have h := zit h c
        refine z_iconst (v := (1 : Int32)) dX8_isShown_39 (by decide) rfl ?_
        refine z_goto (pn := 44) dX8_isShown_40 (by decide) ?_
        exact z_ret (some (.int (zb true))) (Or.inr (Or.inl ⟨_, _, rfl, rfl, zb_nar _, dX8_isShown_44⟩)) zN200 ⟨_, rfl, h⟩
theorem dX8_way_0 : decode cX8_way 0 = .ok (.aload_n 0, 1) := by decide +kernel
theorem dX8_way_1 : decode cX8_way 1 = .ok (.getfield 31, 3) := by decide +kernel
theorem dX8_way_4 : decode cX8_way 4 = .ok (.iload_n 1, 1) := by decide +kernel
theorem dX8_way_5 : decode cX8_way 5 = .ok (.iaload, 1) := by decide +kernel
theorem dX8_way_6 : decode cX8_way 6 = .ok (.ifCond .ne 30, 3) := by decide +kernel
theorem dX8_way_9 : decode cX8_way 9 = .ok (.aload_n 0, 1) := by decide +kernel
theorem dX8_way_10 : decode cX8_way 10 = .ok (.getfield 49, 3) := by decide +kernel
theorem dX8_way_13 : decode cX8_way 13 = .ok (.iload_n 1, 1) := by decide +kernel
theorem dX8_way_14 : decode cX8_way 14 = .ok (.iaload, 1) := by decide +kernel
theorem dX8_way_15 : decode cX8_way 15 = .ok (.aload_n 0, 1) := by decide +kernel
theorem dX8_way_16 : decode cX8_way 16 = .ok (.getfield 52, 3) := by decide +kernel
theorem dX8_way_19 : decode cX8_way 19 = .ok (.iload_n 1, 1) := by decide +kernel
theorem dX8_way_20 : decode cX8_way 20 = .ok (.iaload, 1) := by decide +kernel
theorem dX8_way_21 : decode cX8_way 21 = .ok (.iload_n 3, 1) := by decide +kernel
theorem dX8_way_22 : decode cX8_way 22 = .ok (.imul, 1) := by decide +kernel
theorem dX8_way_23 : decode cX8_way 23 = .ok (.bipush 8, 2) := by decide +kernel
theorem dX8_way_25 : decode cX8_way 25 = .ok (.invokestatic 216, 3) := by decide +kernel
theorem dX8_way_28 : decode cX8_way 28 = .ok (.iadd, 1) := by decide +kernel
theorem dX8_way_29 : decode cX8_way 29 = .ok (.sipush 256, 3) := by decide +kernel
theorem dX8_way_32 : decode cX8_way 32 = .ok (.invokestatic 242, 3) := by decide +kernel
theorem dX8_way_35 : decode cX8_way 35 = .ok (.ireturn, 1) := by decide +kernel
theorem dX8_way_36 : decode cX8_way 36 = .ok (.aload_n 0, 1) := by decide +kernel
theorem dX8_way_37 : decode cX8_way 37 = .ok (.iload_n 1, 1) := by decide +kernel
theorem dX8_way_38 : decode cX8_way 38 = .ok (.iload_n 3, 1) := by decide +kernel
theorem dX8_way_39 : decode cX8_way 39 = .ok (.invokevirtual 225, 3) := by decide +kernel
theorem dX8_way_42 : decode cX8_way 42 = .ok (.istore 4, 2) := by decide +kernel
theorem dX8_way_44 : decode cX8_way 44 = .ok (.aload_n 0, 1) := by decide +kernel
theorem dX8_way_45 : decode cX8_way 45 = .ok (.getfield 207, 3) := by decide +kernel
theorem dX8_way_48 : decode cX8_way 48 = .ok (.aload_n 0, 1) := by decide +kernel
theorem dX8_way_49 : decode cX8_way 49 = .ok (.getfield 25, 3) := by decide +kernel
theorem dX8_way_52 : decode cX8_way 52 = .ok (.iload_n 2, 1) := by decide +kernel
theorem dX8_way_53 : decode cX8_way 53 = .ok (.iaload, 1) := by decide +kernel
theorem dX8_way_54 : decode cX8_way 54 = .ok (.isub, 1) := by decide +kernel
theorem dX8_way_55 : decode cX8_way 55 = .ok (.aload_n 0, 1) := by decide +kernel
theorem dX8_way_56 : decode cX8_way 56 = .ok (.getfield 210, 3) := by decide +kernel
theorem dX8_way_59 : decode cX8_way 59 = .ok (.aload_n 0, 1) := by decide +kernel
theorem dX8_way_60 : decode cX8_way 60 = .ok (.getfield 28, 3) := by decide +kernel
theorem dX8_way_63 : decode cX8_way 63 = .ok (.iload_n 2, 1) := by decide +kernel
theorem dX8_way_64 : decode cX8_way 64 = .ok (.iaload, 1) := by decide +kernel
theorem dX8_way_65 : decode cX8_way 65 = .ok (.isub, 1) := by decide +kernel
theorem dX8_way_66 : decode cX8_way 66 = .ok (.invokestatic 245, 3) := by decide +kernel
theorem dX8_way_69 : decode cX8_way 69 = .ok (.ireturn, 1) := by decide +kernel
set_option maxHeartbeats 4000000 in
set_option maxRecDepth 100000 in
theorem t_X8_way {l : Launch} {g : zG} {d : Nat} {s : zS} (hR : zRok s) {p0 : Int32} {p1 : Int32} {p2 : Int32} {K : Int32 → zS → Prop} (h : (vp_in p0 12 ∧ (if (s.1 172 p0.toNatClampNeg) = 0 then (vp_in p0 12 ∧ (vp_in p0 12 ∧ K (zfm ((s.1 178 p0.toNatClampNeg) + (zfd ((s.1 179 p0.toNatClampNeg) * p2) (8 : Int32))) (256 : Int32)) s)) else (zc l g d M_X8_isAt [.ref 164, .int p0, .int p2] s (zKz (fun b3 s2 => s2.2.2.1 = s.2.2.1 ∧ (vp_in p1 20 ∧ (vp_in p1 20 ∧ (zc l g d M_X8_wayOf [.int ((s2.1 164 20) - (s2.1 170 p1.toNatClampNeg)), .int ((s2.1 164 21) - (s2.1 171 p1.toNatClampNeg))] s2 (zKi (fun r7 s6 => s6.2.2.1 = s2.2.2.1 ∧ K r7 s6))))))))))) : zc l g (d + 1) M_X8_way [.ref 164, .int p0, .int p1, .int p2] s (zKi K) := by
  refine zCall_of k_X8_way (Nat.le_of_ble_eq_true rfl) (Nat.le_refl _) (fun _ => ?_)
  show zt l g (d + 1) M_X8_way 0 [.ref 164, .int p0, .int p1, .int p2, zJ] [] s (zKi K)
  refine z_aload_n (i := 0) dX8_way_0 rfl rfl rfl ?_
  refine z_getR (q := 172) f_X8_31 i_164 rfl (r_164_7 hR) (by decide) dX8_way_1 rfl ?_
  refine z_iload_n (i := 1) dX8_way_4 rfl rfl rfl ?_
  obtain ⟨a1, h⟩ := h
  have wa1 := vin a1
  refine z_iald (x := s.1 172 p0.toNatClampNeg) rfl a_172 a1 dX8_way_5 rfl ?_
  refine z_if_ne (pt := 36) dX8_way_6 (by decide) rfl (fun c => ?_) (fun c => ?_)
  · have h := zif h c
    refine z_aload_n (i := 0) dX8_way_36 rfl rfl rfl ?_
    refine z_iload_n (i := 1) dX8_way_37 rfl rfl rfl ?_
    refine z_iload_n (i := 3) dX8_way_38 rfl rfl rfl ?_
    refine z_callV k_X8_isAt m_X8_225 (zRec_of i_164) rfl h rfl (Nat.le_of_ble_eq_true rfl) dX8_way_39 zy200 rfl ?_
    rintro v s2 ⟨b3, rfl, hRs2, h⟩
    show zt l g (d + 1) M_X8_way 42 [.ref 164, .int p0, .int p1, .int p2, zJ] [.int (zb b3)] s2 _
    refine z_istore dX8_way_42 (by decide) (zokd rfl) rfl ?_
    show zt l g (d + 1) M_X8_way 44 [.ref 164, .int p0, .int p1, .int p2, .int (zb b3)] [] s2 _
    refine z_aload_n (i := 0) dX8_way_44 rfl rfl rfl ?_
    refine z_getI (x := s2.1 164 20) rfl f_X8_207 i_164 rfl dX8_way_45 rfl ?_
    refine z_aload_n (i := 0) dX8_way_48 rfl rfl rfl ?_
    refine z_getR (q := 170) f_X8_25 i_164 rfl (r_164_5 (zRok_of hRs2 hR)) (by decide) dX8_way_49 rfl ?_
    refine z_iload_n (i := 2) dX8_way_52 rfl rfl rfl ?_
    obtain ⟨a4, h⟩ := h
    have wa4 := vin a4
    refine z_iald (x := s2.1 170 p1.toNatClampNeg) rfl a_170 a4 dX8_way_53 rfl ?_
    refine z_isub dX8_way_54 rfl ?_
    refine z_aload_n (i := 0) dX8_way_55 rfl rfl rfl ?_
    refine z_getI (x := s2.1 164 21) rfl f_X8_210 i_164 rfl dX8_way_56 rfl ?_
    refine z_aload_n (i := 0) dX8_way_59 rfl rfl rfl ?_
    refine z_getR (q := 171) f_X8_28 i_164 rfl (r_164_6 (zRok_of hRs2 hR)) (by decide) dX8_way_60 rfl ?_
    refine z_iload_n (i := 2) dX8_way_63 rfl rfl rfl ?_
    obtain ⟨a5, h⟩ := h
    have wa5 := vin a5
    refine z_iald (x := s2.1 171 p1.toNatClampNeg) rfl a_171 a5 dX8_way_64 rfl ?_
    refine z_isub dX8_way_65 rfl ?_
    refine z_callS (as := [.int ((s2.1 164 20) - (s2.1 170 p1.toNatClampNeg)), .int ((s2.1 164 21) - (s2.1 171 p1.toNatClampNeg))]) k_X8_wayOf m_X8_245 rfl h rfl (Nat.le_of_ble_eq_true rfl) dX8_way_66 zy200 rfl ?_
    rintro v s6 ⟨r7, rfl, hRs6, h⟩
    show zt l g (d + 1) M_X8_way 69 [.ref 164, .int p0, .int p1, .int p2, .int (zb b3)] [.int r7] s6 _
    exact z_ret (some (.int r7)) (Or.inr (Or.inl ⟨_, _, rfl, rfl, rfl, dX8_way_69⟩)) zN200 ⟨_, rfl, h⟩
  · have h := zit h c
    refine z_aload_n (i := 0) dX8_way_9 rfl rfl rfl ?_
    refine z_getR (q := 178) f_X8_49 i_164 rfl (r_164_13 hR) (by decide) dX8_way_10 rfl ?_
    refine z_iload_n (i := 1) dX8_way_13 rfl rfl rfl ?_
    obtain ⟨a8, h⟩ := h
    have wa8 := vin a8
    refine z_iald (x := s.1 178 p0.toNatClampNeg) rfl a_178 a8 dX8_way_14 rfl ?_
    refine z_aload_n (i := 0) dX8_way_15 rfl rfl rfl ?_
    refine z_getR (q := 179) f_X8_52 i_164 rfl (r_164_14 hR) (by decide) dX8_way_16 rfl ?_
    refine z_iload_n (i := 1) dX8_way_19 rfl rfl rfl ?_
    obtain ⟨a9, h⟩ := h
    have wa9 := vin a9
    refine z_iald (x := s.1 179 p0.toNatClampNeg) rfl a_179 a9 dX8_way_20 rfl ?_
    refine z_iload_n (i := 3) dX8_way_21 rfl rfl rfl ?_
    refine z_imul dX8_way_22 rfl ?_
    refine z_bipush (v := (8 : Int32)) dX8_way_23 (by decide) rfl ?_
    refine z_fdiv m_X8_216 (by decide) dX8_way_25 (Nat.le_of_ble_eq_true rfl) rfl ?_
    refine z_iadd dX8_way_28 rfl ?_
    refine z_sipush (v := (256 : Int32)) dX8_way_29 (by decide) rfl ?_
    refine z_fmod m_X8_242 (by decide) dX8_way_32 (Nat.le_of_ble_eq_true rfl) rfl ?_
    exact z_ret (some (.int (zfm ((s.1 178 p0.toNatClampNeg) + (zfd ((s.1 179 p0.toNatClampNeg) * p2) (8 : Int32))) (256 : Int32)))) (Or.inr (Or.inl ⟨_, _, rfl, rfl, rfl, dX8_way_35⟩)) zN200 ⟨_, rfl, h⟩
theorem dX8_slope_0 : decode cX8_slope 0 = .ok (.aload_n 0, 1) := by decide +kernel
theorem dX8_slope_1 : decode cX8_slope 1 = .ok (.getfield 31, 3) := by decide +kernel
theorem dX8_slope_4 : decode cX8_slope 4 = .ok (.iload_n 1, 1) := by decide +kernel
theorem dX8_slope_5 : decode cX8_slope 5 = .ok (.iaload, 1) := by decide +kernel
theorem dX8_slope_6 : decode cX8_slope 6 = .ok (.ifCond .ne 10, 3) := by decide +kernel
theorem dX8_slope_9 : decode cX8_slope 9 = .ok (.aload_n 0, 1) := by decide +kernel
theorem dX8_slope_10 : decode cX8_slope 10 = .ok (.getfield 46, 3) := by decide +kernel
theorem dX8_slope_13 : decode cX8_slope 13 = .ok (.iload_n 1, 1) := by decide +kernel
theorem dX8_slope_14 : decode cX8_slope 14 = .ok (.iaload, 1) := by decide +kernel
theorem dX8_slope_15 : decode cX8_slope 15 = .ok (.ireturn, 1) := by decide +kernel
theorem dX8_slope_16 : decode cX8_slope 16 = .ok (.aload_n 0, 1) := by decide +kernel
theorem dX8_slope_17 : decode cX8_slope 17 = .ok (.iload_n 1, 1) := by decide +kernel
theorem dX8_slope_18 : decode cX8_slope 18 = .ok (.iload_n 3, 1) := by decide +kernel
theorem dX8_slope_19 : decode cX8_slope 19 = .ok (.invokevirtual 225, 3) := by decide +kernel
theorem dX8_slope_22 : decode cX8_slope 22 = .ok (.istore 4, 2) := by decide +kernel
theorem dX8_slope_24 : decode cX8_slope 24 = .ok (.aload_n 0, 1) := by decide +kernel
theorem dX8_slope_25 : decode cX8_slope 25 = .ok (.getfield 207, 3) := by decide +kernel
theorem dX8_slope_28 : decode cX8_slope 28 = .ok (.aload_n 0, 1) := by decide +kernel
theorem dX8_slope_29 : decode cX8_slope 29 = .ok (.getfield 25, 3) := by decide +kernel
theorem dX8_slope_32 : decode cX8_slope 32 = .ok (.iload_n 2, 1) := by decide +kernel
theorem dX8_slope_33 : decode cX8_slope 33 = .ok (.iaload, 1) := by decide +kernel
theorem dX8_slope_34 : decode cX8_slope 34 = .ok (.isub, 1) := by decide +kernel
theorem dX8_slope_35 : decode cX8_slope 35 = .ok (.aload_n 0, 1) := by decide +kernel
theorem dX8_slope_36 : decode cX8_slope 36 = .ok (.getfield 210, 3) := by decide +kernel
theorem dX8_slope_39 : decode cX8_slope 39 = .ok (.aload_n 0, 1) := by decide +kernel
theorem dX8_slope_40 : decode cX8_slope 40 = .ok (.getfield 28, 3) := by decide +kernel
theorem dX8_slope_43 : decode cX8_slope 43 = .ok (.iload_n 2, 1) := by decide +kernel
theorem dX8_slope_44 : decode cX8_slope 44 = .ok (.iaload, 1) := by decide +kernel
theorem dX8_slope_45 : decode cX8_slope 45 = .ok (.isub, 1) := by decide +kernel
theorem dX8_slope_46 : decode cX8_slope 46 = .ok (.aload_n 0, 1) := by decide +kernel
theorem dX8_slope_47 : decode cX8_slope 47 = .ok (.getfield 213, 3) := by decide +kernel
theorem dX8_slope_50 : decode cX8_slope 50 = .ok (.aload_n 0, 1) := by decide +kernel
theorem dX8_slope_51 : decode cX8_slope 51 = .ok (.iload_n 2, 1) := by decide +kernel
theorem dX8_slope_52 : decode cX8_slope 52 = .ok (.invokevirtual 233, 3) := by decide +kernel
theorem dX8_slope_55 : decode cX8_slope 55 = .ok (.isub, 1) := by decide +kernel
theorem dX8_slope_56 : decode cX8_slope 56 = .ok (.invokestatic 248, 3) := by decide +kernel
theorem dX8_slope_59 : decode cX8_slope 59 = .ok (.ireturn, 1) := by decide +kernel
set_option maxHeartbeats 4000000 in
set_option maxRecDepth 100000 in
theorem t_X8_slope {l : Launch} {g : zG} {d : Nat} {s : zS} (hR : zRok s) {p0 : Int32} {p1 : Int32} {p2 : Int32} {K : Int32 → zS → Prop} (h : (vp_in p0 12 ∧ (if (s.1 172 p0.toNatClampNeg) = 0 then (vp_in p0 12 ∧ K (s.1 177 p0.toNatClampNeg) s) else (zc l g d M_X8_isAt [.ref 164, .int p0, .int p2] s (zKz (fun b3 s2 => s2.2.2.1 = s.2.2.1 ∧ (vp_in p1 20 ∧ (vp_in p1 20 ∧ (zc l g d M_X8_eye [.ref 164, .int p1] s2 (zKi (fun r7 s6 => s6.2.2.1 = s2.2.2.1 ∧ (zc l g d M_X8_slopeOf [.int ((s2.1 164 20) - (s2.1 170 p1.toNatClampNeg)), .int ((s2.1 164 21) - (s2.1 171 p1.toNatClampNeg)), .int ((s2.1 164 22) - r7)] s6 (zKi (fun r9 s8 => s8.2.2.1 = s6.2.2.1 ∧ K r9 s8)))))))))))))) : zc l g (d + 1) M_X8_slope [.ref 164, .int p0, .int p1, .int p2] s (zKi K) := by
  refine zCall_of k_X8_slope (Nat.le_of_ble_eq_true rfl) (Nat.le_refl _) (fun _ => ?_)
  show zt l g (d + 1) M_X8_slope 0 [.ref 164, .int p0, .int p1, .int p2, zJ] [] s (zKi K)
  refine z_aload_n (i := 0) dX8_slope_0 rfl rfl rfl ?_
  refine z_getR (q := 172) f_X8_31 i_164 rfl (r_164_7 hR) (by decide) dX8_slope_1 rfl ?_
  refine z_iload_n (i := 1) dX8_slope_4 rfl rfl rfl ?_
  obtain ⟨a1, h⟩ := h
  have wa1 := vin a1
  refine z_iald (x := s.1 172 p0.toNatClampNeg) rfl a_172 a1 dX8_slope_5 rfl ?_
  refine z_if_ne (pt := 16) dX8_slope_6 (by decide) rfl (fun c => ?_) (fun c => ?_)
  · have h := zif h c
    refine z_aload_n (i := 0) dX8_slope_16 rfl rfl rfl ?_
    refine z_iload_n (i := 1) dX8_slope_17 rfl rfl rfl ?_
    refine z_iload_n (i := 3) dX8_slope_18 rfl rfl rfl ?_
    refine z_callV k_X8_isAt m_X8_225 (zRec_of i_164) rfl h rfl (Nat.le_of_ble_eq_true rfl) dX8_slope_19 zy200 rfl ?_
    rintro v s2 ⟨b3, rfl, hRs2, h⟩
    show zt l g (d + 1) M_X8_slope 22 [.ref 164, .int p0, .int p1, .int p2, zJ] [.int (zb b3)] s2 _
    refine z_istore dX8_slope_22 (by decide) (zokd rfl) rfl ?_
    show zt l g (d + 1) M_X8_slope 24 [.ref 164, .int p0, .int p1, .int p2, .int (zb b3)] [] s2 _
    refine z_aload_n (i := 0) dX8_slope_24 rfl rfl rfl ?_
    refine z_getI (x := s2.1 164 20) rfl f_X8_207 i_164 rfl dX8_slope_25 rfl ?_
    refine z_aload_n (i := 0) dX8_slope_28 rfl rfl rfl ?_
    refine z_getR (q := 170) f_X8_25 i_164 rfl (r_164_5 (zRok_of hRs2 hR)) (by decide) dX8_slope_29 rfl ?_
    refine z_iload_n (i := 2) dX8_slope_32 rfl rfl rfl ?_
    obtain ⟨a4, h⟩ := h
    have wa4 := vin a4
    refine z_iald (x := s2.1 170 p1.toNatClampNeg) rfl a_170 a4 dX8_slope_33 rfl ?_
    refine z_isub dX8_slope_34 rfl ?_
    refine z_aload_n (i := 0) dX8_slope_35 rfl rfl rfl ?_
    refine z_getI (x := s2.1 164 21) rfl f_X8_210 i_164 rfl dX8_slope_36 rfl ?_
    refine z_aload_n (i := 0) dX8_slope_39 rfl rfl rfl ?_
    refine z_getR (q := 171) f_X8_28 i_164 rfl (r_164_6 (zRok_of hRs2 hR)) (by decide) dX8_slope_40 rfl ?_
    refine z_iload_n (i := 2) dX8_slope_43 rfl rfl rfl ?_
    obtain ⟨a5, h⟩ := h
    have wa5 := vin a5
    refine z_iald (x := s2.1 171 p1.toNatClampNeg) rfl a_171 a5 dX8_slope_44 rfl ?_
    refine z_isub dX8_slope_45 rfl ?_
    refine z_aload_n (i := 0) dX8_slope_46 rfl rfl rfl ?_
    refine z_getI (x := s2.1 164 22) rfl f_X8_213 i_164 rfl dX8_slope_47 rfl ?_
    refine z_aload_n (i := 0) dX8_slope_50 rfl rfl rfl ?_
    refine z_iload_n (i := 2) dX8_slope_51 rfl rfl rfl ?_
    refine z_callV k_X8_eye m_X8_233 (zRec_of i_164) rfl h rfl (Nat.le_of_ble_eq_true rfl) dX8_slope_52 zy200 rfl ?_
    rintro v s6 ⟨r7, rfl, hRs6, h⟩
    show zt l g (d + 1) M_X8_slope 55 [.ref 164, .int p0, .int p1, .int p2, .int (zb b3)] [.int r7, .int (s2.1 164 22), .int ((s2.1 164 21) - (s2.1 171 p1.toNatClampNeg)), .int ((s2.1 164 20) - (s2.1 170 p1.toNatClampNeg))] s6 _
    refine z_isub dX8_slope_55 rfl ?_
    refine z_callS (as := [.int ((s2.1 164 20) - (s2.1 170 p1.toNatClampNeg)), .int ((s2.1 164 21) - (s2.1 171 p1.toNatClampNeg)), .int ((s2.1 164 22) - r7)]) k_X8_slopeOf m_X8_248 rfl h rfl (Nat.le_of_ble_eq_true rfl) dX8_slope_56 zy200 rfl ?_
    rintro v s8 ⟨r9, rfl, hRs8, h⟩
    show zt l g (d + 1) M_X8_slope 59 [.ref 164, .int p0, .int p1, .int p2, .int (zb b3)] [.int r9] s8 _
    exact z_ret (some (.int r9)) (Or.inr (Or.inl ⟨_, _, rfl, rfl, rfl, dX8_slope_59⟩)) zN200 ⟨_, rfl, h⟩
  · have h := zit h c
    refine z_aload_n (i := 0) dX8_slope_9 rfl rfl rfl ?_
    refine z_getR (q := 177) f_X8_46 i_164 rfl (r_164_12 hR) (by decide) dX8_slope_10 rfl ?_
    refine z_iload_n (i := 1) dX8_slope_13 rfl rfl rfl ?_
    obtain ⟨a10, h⟩ := h
    have wa10 := vin a10
    refine z_iald (x := s.1 177 p0.toNatClampNeg) rfl a_177 a10 dX8_slope_14 rfl ?_
    exact z_ret (some (.int (s.1 177 p0.toNatClampNeg))) (Or.inr (Or.inl ⟨_, _, rfl, rfl, rfl, dX8_slope_15⟩)) zN200 ⟨_, rfl, h⟩
theorem dX8_seen_0 : decode cX8_seen 0 = .ok (.aload_n 0, 1) := by decide +kernel
theorem dX8_seen_1 : decode cX8_seen 1 = .ok (.iload_n 1, 1) := by decide +kernel
theorem dX8_seen_2 : decode cX8_seen 2 = .ok (.invokevirtual 219, 3) := by decide +kernel
theorem dX8_seen_5 : decode cX8_seen 5 = .ok (.ifCond .eq 31, 3) := by decide +kernel
theorem dX8_seen_8 : decode cX8_seen 8 = .ok (.aload_n 0, 1) := by decide +kernel
theorem dX8_seen_9 : decode cX8_seen 9 = .ok (.iload_n 2, 1) := by decide +kernel
theorem dX8_seen_10 : decode cX8_seen 10 = .ok (.invokevirtual 252, 3) := by decide +kernel
theorem dX8_seen_13 : decode cX8_seen 13 = .ok (.ifCond .eq 23, 3) := by decide +kernel
theorem dX8_seen_16 : decode cX8_seen 16 = .ok (.iload_n 3, 1) := by decide +kernel
theorem dX8_seen_17 : decode cX8_seen 17 = .ok (.invokestatic 153, 3) := by decide +kernel
theorem dX8_seen_20 : decode cX8_seen 20 = .ok (.ifCond .eq 16, 3) := by decide +kernel
theorem dX8_seen_23 : decode cX8_seen 23 = .ok (.iload 4, 2) := by decide +kernel
theorem dX8_seen_25 : decode cX8_seen 25 = .ok (.i2l, 1) := by decide +kernel
theorem dX8_seen_26 : decode cX8_seen 26 = .ok (.lconst 0, 1) := by decide +kernel
theorem dX8_seen_27 : decode cX8_seen 27 = .ok (.ldc2_w 222, 3) := by decide +kernel
theorem dX8_seen_30 : decode cX8_seen 30 = .ok (.invokestatic 147, 3) := by decide +kernel
theorem dX8_seen_33 : decode cX8_seen 33 = .ok (.ifCond .ne 6, 3) := by decide +kernel
theorem dX8_seen_36 : decode cX8_seen 36 = .ok (.ldc 224, 2) := by decide +kernel
theorem dX8_seen_38 : decode cX8_seen 38 = .ok (.ireturn, 1) := by decide +kernel
theorem dX8_seen_39 : decode cX8_seen 39 = .ok (.iload 4, 2) := by decide +kernel
theorem dX8_seen_41 : decode cX8_seen 41 = .ok (.iconst 2, 1) := by decide +kernel
theorem dX8_seen_42 : decode cX8_seen 42 = .ok (.if_icmp .ne 19, 3) := by decide +kernel
theorem dX8_seen_45 : decode cX8_seen 45 = .ok (.aload_n 0, 1) := by decide +kernel
theorem dX8_seen_46 : decode cX8_seen 46 = .ok (.iload_n 1, 1) := by decide +kernel
theorem dX8_seen_47 : decode cX8_seen 47 = .ok (.iload_n 2, 1) := by decide +kernel
theorem dX8_seen_48 : decode cX8_seen 48 = .ok (.iload_n 3, 1) := by decide +kernel
theorem dX8_seen_49 : decode cX8_seen 49 = .ok (.invokevirtual 255, 3) := by decide +kernel
theorem dX8_seen_52 : decode cX8_seen 52 = .ok (.ifCond .eq 7, 3) := by decide +kernel
theorem dX8_seen_55 : decode cX8_seen 55 = .ok (.iconst 1, 1) := by decide +kernel
theorem dX8_seen_56 : decode cX8_seen 56 = .ok (.goto 4, 3) := by decide +kernel
theorem dX8_seen_59 : decode cX8_seen 59 = .ok (.iconst 0, 1) := by decide +kernel
theorem dX8_seen_60 : decode cX8_seen 60 = .ok (.ireturn, 1) := by decide +kernel
theorem dX8_seen_61 : decode cX8_seen 61 = .ok (.aload_n 0, 1) := by decide +kernel
theorem dX8_seen_62 : decode cX8_seen 62 = .ok (.iload_n 1, 1) := by decide +kernel
theorem dX8_seen_63 : decode cX8_seen 63 = .ok (.iload_n 3, 1) := by decide +kernel
theorem dX8_seen_64 : decode cX8_seen 64 = .ok (.invokevirtual 236, 3) := by decide +kernel
theorem dX8_seen_67 : decode cX8_seen 67 = .ok (.ifCond .ne 6, 3) := by decide +kernel
theorem dX8_seen_70 : decode cX8_seen 70 = .ok (.ldc 224, 2) := by decide +kernel
theorem dX8_seen_72 : decode cX8_seen 72 = .ok (.ireturn, 1) := by decide +kernel
theorem dX8_seen_73 : decode cX8_seen 73 = .ok (.iload 4, 2) := by decide +kernel
theorem dX8_seen_75 : decode cX8_seen 75 = .ok (.ifCond .ne 13, 3) := by decide +kernel
theorem dX8_seen_78 : decode cX8_seen 78 = .ok (.aload_n 0, 1) := by decide +kernel
theorem dX8_seen_79 : decode cX8_seen 79 = .ok (.iload_n 1, 1) := by decide +kernel
theorem dX8_seen_80 : decode cX8_seen 80 = .ok (.iload_n 2, 1) := by decide +kernel
theorem dX8_seen_81 : decode cX8_seen 81 = .ok (.iload_n 3, 1) := by decide +kernel
theorem dX8_seen_82 : decode cX8_seen 82 = .ok (.invokevirtual 259, 3) := by decide +kernel
theorem dX8_seen_85 : decode cX8_seen 85 = .ok (.goto 49, 3) := by decide +kernel
theorem dX8_seen_88 : decode cX8_seen 88 = .ok (.iload 4, 2) := by decide +kernel
theorem dX8_seen_90 : decode cX8_seen 90 = .ok (.iconst 1, 1) := by decide +kernel
theorem dX8_seen_91 : decode cX8_seen 91 = .ok (.if_icmp .ne 13, 3) := by decide +kernel
theorem dX8_seen_94 : decode cX8_seen 94 = .ok (.aload_n 0, 1) := by decide +kernel
theorem dX8_seen_95 : decode cX8_seen 95 = .ok (.iload_n 1, 1) := by decide +kernel
theorem dX8_seen_96 : decode cX8_seen 96 = .ok (.iload_n 2, 1) := by decide +kernel
theorem dX8_seen_97 : decode cX8_seen 97 = .ok (.iload_n 3, 1) := by decide +kernel
theorem dX8_seen_98 : decode cX8_seen 98 = .ok (.invokevirtual 261, 3) := by decide +kernel
theorem dX8_seen_101 : decode cX8_seen 101 = .ok (.goto 33, 3) := by decide +kernel
theorem dX8_seen_104 : decode cX8_seen 104 = .ok (.aload_n 0, 1) := by decide +kernel
theorem dX8_seen_105 : decode cX8_seen 105 = .ok (.getfield 31, 3) := by decide +kernel
theorem dX8_seen_108 : decode cX8_seen 108 = .ok (.iload_n 1, 1) := by decide +kernel
theorem dX8_seen_109 : decode cX8_seen 109 = .ok (.iaload, 1) := by decide +kernel
theorem dX8_seen_110 : decode cX8_seen 110 = .ok (.ifCond .ne 7, 3) := by decide +kernel
theorem dX8_seen_113 : decode cX8_seen 113 = .ok (.iconst (-1), 1) := by decide +kernel
theorem dX8_seen_114 : decode cX8_seen 114 = .ok (.goto 20, 3) := by decide +kernel
theorem dX8_seen_117 : decode cX8_seen 117 = .ok (.aload_n 0, 1) := by decide +kernel
theorem dX8_seen_118 : decode cX8_seen 118 = .ok (.iload_n 2, 1) := by decide +kernel
theorem dX8_seen_119 : decode cX8_seen 119 = .ok (.aload_n 0, 1) := by decide +kernel
theorem dX8_seen_120 : decode cX8_seen 120 = .ok (.getfield 207, 3) := by decide +kernel
theorem dX8_seen_123 : decode cX8_seen 123 = .ok (.aload_n 0, 1) := by decide +kernel
theorem dX8_seen_124 : decode cX8_seen 124 = .ok (.getfield 210, 3) := by decide +kernel
theorem dX8_seen_127 : decode cX8_seen 127 = .ok (.aload_n 0, 1) := by decide +kernel
theorem dX8_seen_128 : decode cX8_seen 128 = .ok (.getfield 213, 3) := by decide +kernel
theorem dX8_seen_131 : decode cX8_seen 131 = .ok (.invokevirtual 239, 3) := by decide +kernel
theorem dX8_seen_134 : decode cX8_seen 134 = .ok (.ireturn, 1) := by decide +kernel
set_option maxHeartbeats 4000000 in
set_option maxRecDepth 100000 in
theorem t_X8_seen {l : Launch} {g : zG} {d : Nat} {s : zS} (hR : zRok s) {p0 : Int32} {p1 : Int32} {p2 : Int32} {p3 : Int32} {K : Int32 → zS → Prop} (h : (zc l g d M_X8_isThing [.ref 164, .int p0] s (zKz (fun b2 s1 => s1.2.2.1 = s.2.2.1 ∧ (if b2 = true then (zc l g d M_X8_isSeer [.ref 164, .int p1] s1 (zKz (fun b4 s3 => s3.2.2.1 = s1.2.2.1 ∧ (if b4 = true then (zc l g d M_X8_isMinute [.int p2] s3 (zKz (fun b6 s5 => s5.2.2.1 = s3.2.2.1 ∧ (if b6 = true then (if (zinr p3.toInt64 (0 : Int64) (3 : Int64)) = true then (if p3 = (2 : Int32) then (zc l g d M_X8_isShown [.ref 164, .int p0, .int p1, .int p2] s5 (zKz (fun b17 s16 => s16.2.2.1 = s5.2.2.1 ∧ (if b17 = true then K (1 : Int32) s16 else K (0 : Int32) s16)))) else (zc l g d M_X8_isLit [.ref 164, .int p0, .int p2] s5 (zKz (fun b8 s7 => s7.2.2.1 = s5.2.2.1 ∧ (if b8 = true then (if p3 = 0 then (zc l g d M_X8_way [.ref 164, .int p0, .int p1, .int p2] s7 (zKi (fun r15 s14 => s14.2.2.1 = s7.2.2.1 ∧ K r15 s14))) else (if p3 = (1 : Int32) then (zc l g d M_X8_slope [.ref 164, .int p0, .int p1, .int p2] s7 (zKi (fun r13 s12 => s12.2.2.1 = s7.2.2.1 ∧ K r13 s12))) else (vp_in p0 12 ∧ (if (s7.1 172 p0.toNatClampNeg) = 0 then K (-1 : Int32) s7 else (zc l g d M_X8_hider [.ref 164, .int p1, .int (s7.1 164 20), .int (s7.1 164 21), .int (s7.1 164 22)] s7 (zKi (fun r11 s10 => s10.2.2.1 = s7.2.2.1 ∧ K r11 s10))))))) else K (-2147483648 : Int32) s7))))) else K (-2147483648 : Int32) s5) else K (-2147483648 : Int32) s5)))) else K (-2147483648 : Int32) s3)))) else K (-2147483648 : Int32) s1))))) : zc l g (d + 1) M_X8_seen [.ref 164, .int p0, .int p1, .int p2, .int p3] s (zKi K) := by
  refine zCall_of k_X8_seen (Nat.le_of_ble_eq_true rfl) (Nat.le_refl _) (fun _ => ?_)
  show zt l g (d + 1) M_X8_seen 0 [.ref 164, .int p0, .int p1, .int p2, .int p3] [] s (zKi K)
  refine z_aload_n (i := 0) dX8_seen_0 rfl rfl rfl ?_
  refine z_iload_n (i := 1) dX8_seen_1 rfl rfl rfl ?_
  refine z_callV k_X8_isThing m_X8_219 (zRec_of i_164) rfl h rfl (Nat.le_of_ble_eq_true rfl) dX8_seen_2 zy200 rfl ?_
  rintro v s1 ⟨b2, rfl, hRs1, h⟩
  show zt l g (d + 1) M_X8_seen 5 [.ref 164, .int p0, .int p1, .int p2, .int p3] [.int (zb b2)] s1 _
  refine z_ifb_eq (pt := 36) dX8_seen_5 (by decide) rfl (fun c => ?_) (fun c => ?_)
  · have h := zif h (by rw [c]; exact Bool.false_ne_true)
    refine z_ldc (v := (-2147483648 : Int32)) q_X8_224 dX8_seen_36 rfl ?_
    exact z_ret (some (.int (-2147483648 : Int32))) (Or.inr (Or.inl ⟨_, _, rfl, rfl, rfl, dX8_seen_38⟩)) zN200 ⟨_, rfl, h⟩
  · have h := zit h c
    refine z_aload_n (i := 0) dX8_seen_8 rfl rfl rfl ?_
    refine z_iload_n (i := 2) dX8_seen_9 rfl rfl rfl ?_
    refine z_callV k_X8_isSeer m_X8_252 (zRec_of i_164) rfl h rfl (Nat.le_of_ble_eq_true rfl) dX8_seen_10 zy200 rfl ?_
    rintro v s3 ⟨b4, rfl, hRs3, h⟩
    show zt l g (d + 1) M_X8_seen 13 [.ref 164, .int p0, .int p1, .int p2, .int p3] [.int (zb b4)] s3 _
    refine z_ifb_eq (pt := 36) dX8_seen_13 (by decide) rfl (fun c => ?_) (fun c => ?_)
    · have h := zif h (by rw [c]; exact Bool.false_ne_true)
      refine z_ldc (v := (-2147483648 : Int32)) q_X8_224 dX8_seen_36 rfl ?_
      exact z_ret (some (.int (-2147483648 : Int32))) (Or.inr (Or.inl ⟨_, _, rfl, rfl, rfl, dX8_seen_38⟩)) zN200 ⟨_, rfl, h⟩
    · have h := zit h c
      refine z_iload_n (i := 3) dX8_seen_16 rfl rfl rfl ?_
      refine z_callS (as := [.int p2]) k_X8_isMinute m_X8_153 rfl h rfl (Nat.le_of_ble_eq_true rfl) dX8_seen_17 zy200 rfl ?_
      rintro v s5 ⟨b6, rfl, hRs5, h⟩
      show zt l g (d + 1) M_X8_seen 20 [.ref 164, .int p0, .int p1, .int p2, .int p3] [.int (zb b6)] s5 _
      refine z_ifb_eq (pt := 36) dX8_seen_20 (by decide) rfl (fun c => ?_) (fun c => ?_)
      · have h := zif h (by rw [c]; exact Bool.false_ne_true)
        refine z_ldc (v := (-2147483648 : Int32)) q_X8_224 dX8_seen_36 rfl ?_
        exact z_ret (some (.int (-2147483648 : Int32))) (Or.inr (Or.inl ⟨_, _, rfl, rfl, rfl, dX8_seen_38⟩)) zN200 ⟨_, rfl, h⟩
      · have h := zit h c
        refine z_iload dX8_seen_23 rfl rfl ?_
        refine z_i2l dX8_seen_25 rfl ?_
        refine z_lconst (v := (0 : Int64)) dX8_seen_26 (by decide) rfl ?_
        refine z_ldc2 (v := (3 : Int64)) q_X8_222 dX8_seen_27 rfl ?_
        refine z_in m_X8_147 dX8_seen_30 (Nat.le_of_ble_eq_true rfl) rfl ?_
        refine z_ifb_ne (pt := 39) dX8_seen_33 (by decide) rfl (fun c => ?_) (fun c => ?_)
        · have h := zit h c
          refine z_iload dX8_seen_39 rfl rfl ?_
          refine z_iconst (v := (2 : Int32)) dX8_seen_41 (by decide) rfl ?_
          refine z_icmp_ne (pt := 61) dX8_seen_42 (by decide) rfl (fun c => ?_) (fun c => ?_)
          · have h := zif h c
            refine z_aload_n (i := 0) dX8_seen_61 rfl rfl rfl ?_
            refine z_iload_n (i := 1) dX8_seen_62 rfl rfl rfl ?_
            refine z_iload_n (i := 3) dX8_seen_63 rfl rfl rfl ?_
            refine z_callV k_X8_isLit m_X8_236 (zRec_of i_164) rfl h rfl (Nat.le_of_ble_eq_true rfl) dX8_seen_64 zy200 rfl ?_
            rintro v s7 ⟨b8, rfl, hRs7, h⟩
            show zt l g (d + 1) M_X8_seen 67 [.ref 164, .int p0, .int p1, .int p2, .int p3] [.int (zb b8)] s7 _
            refine z_ifb_ne (pt := 73) dX8_seen_67 (by decide) rfl (fun c => ?_) (fun c => ?_)
            · have h := zit h c
              refine z_iload dX8_seen_73 rfl rfl ?_
              refine z_if_ne (pt := 88) dX8_seen_75 (by decide) rfl (fun c => ?_) (fun c => ?_)
              · have h := zif h c
                refine z_iload dX8_seen_88 rfl rfl ?_
                refine z_iconst (v := (1 : Int32)) dX8_seen_90 (by decide) rfl ?_
                refine z_icmp_ne (pt := 104) dX8_seen_91 (by decide) rfl (fun c => ?_) (fun c => ?_)
                · have h := zif h c
                  refine z_aload_n (i := 0) dX8_seen_104 rfl rfl rfl ?_
                  refine z_getR (q := 172) f_X8_31 i_164 rfl (r_164_7 (zRok_of hRs7 (zRok_of hRs5 (zRok_of hRs3 (zRok_of hRs1 hR))))) (by decide) dX8_seen_105 rfl ?_
                  refine z_iload_n (i := 1) dX8_seen_108 rfl rfl rfl ?_
                  obtain ⟨a9, h⟩ := h
                  have wa9 := vin a9
                  refine z_iald (x := s7.1 172 p0.toNatClampNeg) rfl a_172 a9 dX8_seen_109 rfl ?_
                  refine z_if_ne (pt := 117) dX8_seen_110 (by decide) rfl (fun c => ?_) (fun c => ?_)
                  · have h := zif h c
                    refine z_aload_n (i := 0) dX8_seen_117 rfl rfl rfl ?_
                    refine z_iload_n (i := 2) dX8_seen_118 rfl rfl rfl ?_
                    refine z_aload_n (i := 0) dX8_seen_119 rfl rfl rfl ?_
                    refine z_getI (x := s7.1 164 20) rfl f_X8_207 i_164 rfl dX8_seen_120 rfl ?_
                    refine z_aload_n (i := 0) dX8_seen_123 rfl rfl rfl ?_
                    refine z_getI (x := s7.1 164 21) rfl f_X8_210 i_164 rfl dX8_seen_124 rfl ?_
                    refine z_aload_n (i := 0) dX8_seen_127 rfl rfl rfl ?_
                    refine z_getI (x := s7.1 164 22) rfl f_X8_213 i_164 rfl dX8_seen_128 rfl ?_
                    refine z_callV k_X8_hider m_X8_239 (zRec_of i_164) rfl h rfl (Nat.le_of_ble_eq_true rfl) dX8_seen_131 zy200 rfl ?_
                    rintro v s10 ⟨r11, rfl, hRs10, h⟩
                    show zt l g (d + 1) M_X8_seen 134 [.ref 164, .int p0, .int p1, .int p2, .int p3] [.int r11] s10 _
                    exact z_ret (some (.int r11)) (Or.inr (Or.inl ⟨_, _, rfl, rfl, rfl, dX8_seen_134⟩)) zN200 ⟨_, rfl, h⟩
                  · have h := zit h c
                    refine z_iconst (v := (-1 : Int32)) dX8_seen_113 (by decide) rfl ?_
                    refine z_goto (pn := 134) dX8_seen_114 (by decide) ?_
                    exact z_ret (some (.int (-1 : Int32))) (Or.inr (Or.inl ⟨_, _, rfl, rfl, rfl, dX8_seen_134⟩)) zN200 ⟨_, rfl, h⟩
                · have h := zit h c
                  refine z_aload_n (i := 0) dX8_seen_94 rfl rfl rfl ?_
                  refine z_iload_n (i := 1) dX8_seen_95 rfl rfl rfl ?_
                  refine z_iload_n (i := 2) dX8_seen_96 rfl rfl rfl ?_
                  refine z_iload_n (i := 3) dX8_seen_97 rfl rfl rfl ?_
                  refine z_callV k_X8_slope m_X8_261 (zRec_of i_164) rfl h rfl (Nat.le_of_ble_eq_true rfl) dX8_seen_98 zy200 rfl ?_
                  rintro v s12 ⟨r13, rfl, hRs12, h⟩
                  show zt l g (d + 1) M_X8_seen 101 [.ref 164, .int p0, .int p1, .int p2, .int p3] [.int r13] s12 _
                  refine z_goto (pn := 134) dX8_seen_101 (by decide) ?_
                  exact z_ret (some (.int r13)) (Or.inr (Or.inl ⟨_, _, rfl, rfl, rfl, dX8_seen_134⟩)) zN200 ⟨_, rfl, h⟩
              · have h := zit h c
                refine z_aload_n (i := 0) dX8_seen_78 rfl rfl rfl ?_
                refine z_iload_n (i := 1) dX8_seen_79 rfl rfl rfl ?_
                refine z_iload_n (i := 2) dX8_seen_80 rfl rfl rfl ?_
                refine z_iload_n (i := 3) dX8_seen_81 rfl rfl rfl ?_
                refine z_callV k_X8_way m_X8_259 (zRec_of i_164) rfl h rfl (Nat.le_of_ble_eq_true rfl) dX8_seen_82 zy200 rfl ?_
                rintro v s14 ⟨r15, rfl, hRs14, h⟩
                show zt l g (d + 1) M_X8_seen 85 [.ref 164, .int p0, .int p1, .int p2, .int p3] [.int r15] s14 _
                refine z_goto (pn := 134) dX8_seen_85 (by decide) ?_
                exact z_ret (some (.int r15)) (Or.inr (Or.inl ⟨_, _, rfl, rfl, rfl, dX8_seen_134⟩)) zN200 ⟨_, rfl, h⟩
            · have h := zif h (by rw [c]; exact Bool.false_ne_true)
              refine z_ldc (v := (-2147483648 : Int32)) q_X8_224 dX8_seen_70 rfl ?_
              exact z_ret (some (.int (-2147483648 : Int32))) (Or.inr (Or.inl ⟨_, _, rfl, rfl, rfl, dX8_seen_72⟩)) zN200 ⟨_, rfl, h⟩
          · have h := zit h c
            refine z_aload_n (i := 0) dX8_seen_45 rfl rfl rfl ?_
            refine z_iload_n (i := 1) dX8_seen_46 rfl rfl rfl ?_
            refine z_iload_n (i := 2) dX8_seen_47 rfl rfl rfl ?_
            refine z_iload_n (i := 3) dX8_seen_48 rfl rfl rfl ?_
            refine z_callV k_X8_isShown m_X8_255 (zRec_of i_164) rfl h rfl (Nat.le_of_ble_eq_true rfl) dX8_seen_49 zy200 rfl ?_
            rintro v s16 ⟨b17, rfl, hRs16, h⟩
            show zt l g (d + 1) M_X8_seen 52 [.ref 164, .int p0, .int p1, .int p2, .int p3] [.int (zb b17)] s16 _
            refine z_ifb_eq (pt := 59) dX8_seen_52 (by decide) rfl (fun c => ?_) (fun c => ?_)
            · have h := zif h (by rw [c]; exact Bool.false_ne_true)
              refine z_iconst (v := (0 : Int32)) dX8_seen_59 (by decide) rfl ?_
              exact z_ret (some (.int (0 : Int32))) (Or.inr (Or.inl ⟨_, _, rfl, rfl, rfl, dX8_seen_60⟩)) zN200 ⟨_, rfl, h⟩
            · have h := zit h c
              refine z_iconst (v := (1 : Int32)) dX8_seen_55 (by decide) rfl ?_
              refine z_goto (pn := 60) dX8_seen_56 (by decide) ?_
              exact z_ret (some (.int (1 : Int32))) (Or.inr (Or.inl ⟨_, _, rfl, rfl, rfl, dX8_seen_60⟩)) zN200 ⟨_, rfl, h⟩
        · have h := zif h (by rw [c]; exact Bool.false_ne_true)
          refine z_ldc (v := (-2147483648 : Int32)) q_X8_224 dX8_seen_36 rfl ?_
          exact z_ret (some (.int (-2147483648 : Int32))) (Or.inr (Or.inl ⟨_, _, rfl, rfl, rfl, dX8_seen_38⟩)) zN200 ⟨_, rfl, h⟩
theorem dX8_isView_0 : decode cX8_isView 0 = .ok (.iload_n 0, 1) := by decide +kernel
theorem dX8_isView_1 : decode cX8_isView 1 = .ok (.i2l, 1) := by decide +kernel
theorem dX8_isView_2 : decode cX8_isView 2 = .ok (.lconst 0, 1) := by decide +kernel
theorem dX8_isView_3 : decode cX8_isView 3 = .ok (.ldc2_w 263, 3) := by decide +kernel
theorem dX8_isView_6 : decode cX8_isView 6 = .ok (.invokestatic 147, 3) := by decide +kernel
theorem dX8_isView_9 : decode cX8_isView 9 = .ok (.ireturn, 1) := by decide +kernel
set_option maxHeartbeats 4000000 in
set_option maxRecDepth 100000 in
theorem t_X8_isView {l : Launch} {g : zG} {d : Nat} {s : zS} (hR : zRok s) {p0 : Int32} {K : Bool → zS → Prop} (h : K (zinr p0.toInt64 (0 : Int64) (255999 : Int64)) s) : zc l g (d + 1) M_X8_isView [.int p0] s (zKz K) := by
  refine zCall_of k_X8_isView (Nat.le_of_ble_eq_true rfl) (Nat.le_refl _) (fun _ => ?_)
  show zt l g (d + 1) M_X8_isView 0 [.int p0] [] s (zKz K)
  refine z_iload_n (i := 0) dX8_isView_0 rfl rfl rfl ?_
  refine z_i2l dX8_isView_1 rfl ?_
  refine z_lconst (v := (0 : Int64)) dX8_isView_2 (by decide) rfl ?_
  refine z_ldc2 (v := (255999 : Int64)) q_X8_263 dX8_isView_3 rfl ?_
  refine z_in m_X8_147 dX8_isView_6 (Nat.le_of_ble_eq_true rfl) rfl ?_
  exact z_ret (some (.int (zb (zinr p0.toInt64 (0 : Int64) (255999 : Int64))))) (Or.inr (Or.inl ⟨_, _, rfl, rfl, zb_nar _, dX8_isView_9⟩)) zN200 ⟨_, rfl, h⟩
theorem dX8_tell_0 : decode cX8_tell 0 = .ok (.aload_n 0, 1) := by decide +kernel
theorem dX8_tell_1 : decode cX8_tell 1 = .ok (.iload_n 1, 1) := by decide +kernel
theorem dX8_tell_2 : decode cX8_tell 2 = .ok (.invokevirtual 252, 3) := by decide +kernel
theorem dX8_tell_5 : decode cX8_tell 5 = .ok (.ifCond .eq 54, 3) := by decide +kernel
theorem dX8_tell_8 : decode cX8_tell 8 = .ok (.iload_n 2, 1) := by decide +kernel
theorem dX8_tell_9 : decode cX8_tell 9 = .ok (.invokestatic 198, 3) := by decide +kernel
theorem dX8_tell_12 : decode cX8_tell 12 = .ok (.ifCond .eq 47, 3) := by decide +kernel
theorem dX8_tell_15 : decode cX8_tell 15 = .ok (.iload_n 3, 1) := by decide +kernel
theorem dX8_tell_16 : decode cX8_tell 16 = .ok (.invokestatic 265, 3) := by decide +kernel
theorem dX8_tell_19 : decode cX8_tell 19 = .ok (.ifCond .eq 40, 3) := by decide +kernel
theorem dX8_tell_22 : decode cX8_tell 22 = .ok (.iload 4, 2) := by decide +kernel
theorem dX8_tell_24 : decode cX8_tell 24 = .ok (.invokestatic 265, 3) := by decide +kernel
theorem dX8_tell_27 : decode cX8_tell 27 = .ok (.ifCond .eq 32, 3) := by decide +kernel
theorem dX8_tell_30 : decode cX8_tell 30 = .ok (.iload 5, 2) := by decide +kernel
theorem dX8_tell_32 : decode cX8_tell 32 = .ok (.i2l, 1) := by decide +kernel
theorem dX8_tell_33 : decode cX8_tell 33 = .ok (.lconst 1, 1) := by decide +kernel
theorem dX8_tell_34 : decode cX8_tell 34 = .ok (.ldc2_w 268, 3) := by decide +kernel
theorem dX8_tell_37 : decode cX8_tell 37 = .ok (.invokestatic 147, 3) := by decide +kernel
theorem dX8_tell_40 : decode cX8_tell 40 = .ok (.ifCond .eq 19, 3) := by decide +kernel
theorem dX8_tell_43 : decode cX8_tell 43 = .ok (.iload 5, 2) := by decide +kernel
theorem dX8_tell_45 : decode cX8_tell 45 = .ok (.bipush 10, 2) := by decide +kernel
theorem dX8_tell_47 : decode cX8_tell 47 = .ok (.if_icmp .eq 12, 3) := by decide +kernel
theorem dX8_tell_50 : decode cX8_tell 50 = .ok (.aload_n 0, 1) := by decide +kernel
theorem dX8_tell_51 : decode cX8_tell 51 = .ok (.getfield 270, 3) := by decide +kernel
theorem dX8_tell_54 : decode cX8_tell 54 = .ok (.bipush 60, 2) := by decide +kernel
theorem dX8_tell_56 : decode cX8_tell 56 = .ok (.if_icmp .ne 5, 3) := by decide +kernel
theorem dX8_tell_59 : decode cX8_tell 59 = .ok (.iconst (-1), 1) := by decide +kernel
theorem dX8_tell_60 : decode cX8_tell 60 = .ok (.ireturn, 1) := by decide +kernel
theorem dX8_tell_61 : decode cX8_tell 61 = .ok (.aload_n 0, 1) := by decide +kernel
theorem dX8_tell_62 : decode cX8_tell 62 = .ok (.getfield 63, 3) := by decide +kernel
theorem dX8_tell_65 : decode cX8_tell 65 = .ok (.aload_n 0, 1) := by decide +kernel
theorem dX8_tell_66 : decode cX8_tell 66 = .ok (.getfield 270, 3) := by decide +kernel
theorem dX8_tell_69 : decode cX8_tell 69 = .ok (.aaload, 1) := by decide +kernel
theorem dX8_tell_70 : decode cX8_tell 70 = .ok (.astore 6, 2) := by decide +kernel
theorem dX8_tell_72 : decode cX8_tell 72 = .ok (.aload 6, 2) := by decide +kernel
theorem dX8_tell_74 : decode cX8_tell 74 = .ok (.iconst 0, 1) := by decide +kernel
theorem dX8_tell_75 : decode cX8_tell 75 = .ok (.iload_n 1, 1) := by decide +kernel
theorem dX8_tell_76 : decode cX8_tell 76 = .ok (.iastore, 1) := by decide +kernel
theorem dX8_tell_77 : decode cX8_tell 77 = .ok (.aload 6, 2) := by decide +kernel
theorem dX8_tell_79 : decode cX8_tell 79 = .ok (.iconst 1, 1) := by decide +kernel
theorem dX8_tell_80 : decode cX8_tell 80 = .ok (.iload_n 2, 1) := by decide +kernel
theorem dX8_tell_81 : decode cX8_tell 81 = .ok (.sipush 1000, 3) := by decide +kernel
theorem dX8_tell_84 : decode cX8_tell 84 = .ok (.idiv, 1) := by decide +kernel
theorem dX8_tell_85 : decode cX8_tell 85 = .ok (.iastore, 1) := by decide +kernel
theorem dX8_tell_86 : decode cX8_tell 86 = .ok (.aload 6, 2) := by decide +kernel
theorem dX8_tell_88 : decode cX8_tell 88 = .ok (.iconst 2, 1) := by decide +kernel
theorem dX8_tell_89 : decode cX8_tell 89 = .ok (.iload_n 2, 1) := by decide +kernel
theorem dX8_tell_90 : decode cX8_tell 90 = .ok (.sipush 1000, 3) := by decide +kernel
theorem dX8_tell_93 : decode cX8_tell 93 = .ok (.irem, 1) := by decide +kernel
theorem dX8_tell_94 : decode cX8_tell 94 = .ok (.iastore, 1) := by decide +kernel
theorem dX8_tell_95 : decode cX8_tell 95 = .ok (.aload 6, 2) := by decide +kernel
theorem dX8_tell_97 : decode cX8_tell 97 = .ok (.iconst 3, 1) := by decide +kernel
theorem dX8_tell_98 : decode cX8_tell 98 = .ok (.iload_n 3, 1) := by decide +kernel
theorem dX8_tell_99 : decode cX8_tell 99 = .ok (.sipush 1000, 3) := by decide +kernel
theorem dX8_tell_102 : decode cX8_tell 102 = .ok (.idiv, 1) := by decide +kernel
theorem dX8_tell_103 : decode cX8_tell 103 = .ok (.iastore, 1) := by decide +kernel
theorem dX8_tell_104 : decode cX8_tell 104 = .ok (.aload 6, 2) := by decide +kernel
theorem dX8_tell_106 : decode cX8_tell 106 = .ok (.iconst 4, 1) := by decide +kernel
theorem dX8_tell_107 : decode cX8_tell 107 = .ok (.iload_n 3, 1) := by decide +kernel
theorem dX8_tell_108 : decode cX8_tell 108 = .ok (.sipush 1000, 3) := by decide +kernel
theorem dX8_tell_111 : decode cX8_tell 111 = .ok (.irem, 1) := by decide +kernel
theorem dX8_tell_112 : decode cX8_tell 112 = .ok (.iastore, 1) := by decide +kernel
theorem dX8_tell_113 : decode cX8_tell 113 = .ok (.aload 6, 2) := by decide +kernel
theorem dX8_tell_115 : decode cX8_tell 115 = .ok (.iconst 5, 1) := by decide +kernel
theorem dX8_tell_116 : decode cX8_tell 116 = .ok (.iload 4, 2) := by decide +kernel
theorem dX8_tell_118 : decode cX8_tell 118 = .ok (.sipush 1000, 3) := by decide +kernel
theorem dX8_tell_121 : decode cX8_tell 121 = .ok (.idiv, 1) := by decide +kernel
theorem dX8_tell_122 : decode cX8_tell 122 = .ok (.iastore, 1) := by decide +kernel
theorem dX8_tell_123 : decode cX8_tell 123 = .ok (.aload 6, 2) := by decide +kernel
theorem dX8_tell_125 : decode cX8_tell 125 = .ok (.bipush 6, 2) := by decide +kernel
theorem dX8_tell_127 : decode cX8_tell 127 = .ok (.iload 4, 2) := by decide +kernel
theorem dX8_tell_129 : decode cX8_tell 129 = .ok (.sipush 1000, 3) := by decide +kernel
theorem dX8_tell_132 : decode cX8_tell 132 = .ok (.irem, 1) := by decide +kernel
theorem dX8_tell_133 : decode cX8_tell 133 = .ok (.iastore, 1) := by decide +kernel
theorem dX8_tell_134 : decode cX8_tell 134 = .ok (.aload 6, 2) := by decide +kernel
theorem dX8_tell_136 : decode cX8_tell 136 = .ok (.bipush 7, 2) := by decide +kernel
theorem dX8_tell_138 : decode cX8_tell 138 = .ok (.iload 5, 2) := by decide +kernel
theorem dX8_tell_140 : decode cX8_tell 140 = .ok (.bipush 10, 2) := by decide +kernel
theorem dX8_tell_142 : decode cX8_tell 142 = .ok (.irem, 1) := by decide +kernel
theorem dX8_tell_143 : decode cX8_tell 143 = .ok (.iastore, 1) := by decide +kernel
theorem dX8_tell_144 : decode cX8_tell 144 = .ok (.aload 6, 2) := by decide +kernel
theorem dX8_tell_146 : decode cX8_tell 146 = .ok (.bipush 8, 2) := by decide +kernel
theorem dX8_tell_148 : decode cX8_tell 148 = .ok (.iload 5, 2) := by decide +kernel
theorem dX8_tell_150 : decode cX8_tell 150 = .ok (.bipush 10, 2) := by decide +kernel
theorem dX8_tell_152 : decode cX8_tell 152 = .ok (.idiv, 1) := by decide +kernel
theorem dX8_tell_153 : decode cX8_tell 153 = .ok (.iastore, 1) := by decide +kernel
theorem dX8_tell_154 : decode cX8_tell 154 = .ok (.aload_n 0, 1) := by decide +kernel
theorem dX8_tell_155 : decode cX8_tell 155 = .ok (.dup, 1) := by decide +kernel
theorem dX8_tell_156 : decode cX8_tell 156 = .ok (.getfield 270, 3) := by decide +kernel
theorem dX8_tell_159 : decode cX8_tell 159 = .ok (.iconst 1, 1) := by decide +kernel
theorem dX8_tell_160 : decode cX8_tell 160 = .ok (.iadd, 1) := by decide +kernel
theorem dX8_tell_161 : decode cX8_tell 161 = .ok (.putfield 270, 3) := by decide +kernel
theorem dX8_tell_164 : decode cX8_tell 164 = .ok (.aload_n 0, 1) := by decide +kernel
theorem dX8_tell_165 : decode cX8_tell 165 = .ok (.getfield 270, 3) := by decide +kernel
theorem dX8_tell_168 : decode cX8_tell 168 = .ok (.iconst 1, 1) := by decide +kernel
theorem dX8_tell_169 : decode cX8_tell 169 = .ok (.isub, 1) := by decide +kernel
theorem dX8_tell_170 : decode cX8_tell 170 = .ok (.ireturn, 1) := by decide +kernel
set_option maxHeartbeats 4000000 in
set_option maxRecDepth 100000 in
theorem t_X8_tell {l : Launch} {g : zG} {d : Nat} {s : zS} (hR : zRok s) {p0 : Int32} {p1 : Int32} {p2 : Int32} {p3 : Int32} {p4 : Int32} {K : Int32 → zS → Prop} (h : (zc l g d M_X8_isSeer [.ref 164, .int p0] s (zKz (fun b2 s1 => s1.2.2.1 = s.2.2.1 ∧ (if b2 = true then (zc l g d M_X8_areMinutes [.int p1] s1 (zKz (fun b4 s3 => s3.2.2.1 = s1.2.2.1 ∧ (if b4 = true then (zc l g d M_X8_isView [.int p2] s3 (zKz (fun b6 s5 => s5.2.2.1 = s3.2.2.1 ∧ (if b6 = true then (zc l g d M_X8_isView [.int p3] s5 (zKz (fun b8 s7 => s7.2.2.1 = s5.2.2.1 ∧ (if b8 = true then (if (zinr p4.toInt64 (1 : Int64) (19 : Int64)) = true then (if p4 = (10 : Int32) then K (-1 : Int32) s7 else (if (s7.1 164 24) = (60 : Int32) then K (-1 : Int32) s7 else (vp_in (s7.1 164 24) 60 ∧ K (((s7.1 164 24) + (1 : Int32)) - (1 : Int32)) (zI (zI (zI (zI (zI (zI (zI (zI (zI (zI s7 (183 + (s7.1 164 24).toNatClampNeg) 0 p0) (183 + (s7.1 164 24).toNatClampNeg) 1 (p1 / (1000 : Int32))) (183 + (s7.1 164 24).toNatClampNeg) 2 (p1 % (1000 : Int32))) (183 + (s7.1 164 24).toNatClampNeg) 3 (p2 / (1000 : Int32))) (183 + (s7.1 164 24).toNatClampNeg) 4 (p2 % (1000 : Int32))) (183 + (s7.1 164 24).toNatClampNeg) 5 (p3 / (1000 : Int32))) (183 + (s7.1 164 24).toNatClampNeg) 6 (p3 % (1000 : Int32))) (183 + (s7.1 164 24).toNatClampNeg) 7 (p4 % (10 : Int32))) (183 + (s7.1 164 24).toNatClampNeg) 8 (p4 / (10 : Int32))) 164 24 ((s7.1 164 24) + (1 : Int32)))))) else K (-1 : Int32) s7) else K (-1 : Int32) s7)))) else K (-1 : Int32) s5)))) else K (-1 : Int32) s3)))) else K (-1 : Int32) s1))))) : zc l g (d + 1) M_X8_tell [.ref 164, .int p0, .int p1, .int p2, .int p3, .int p4] s (zKi K) := by
  refine zCall_of k_X8_tell (Nat.le_of_ble_eq_true rfl) (Nat.le_refl _) (fun _ => ?_)
  show zt l g (d + 1) M_X8_tell 0 [.ref 164, .int p0, .int p1, .int p2, .int p3, .int p4, zJ] [] s (zKi K)
  refine z_aload_n (i := 0) dX8_tell_0 rfl rfl rfl ?_
  refine z_iload_n (i := 1) dX8_tell_1 rfl rfl rfl ?_
  refine z_callV k_X8_isSeer m_X8_252 (zRec_of i_164) rfl h rfl (Nat.le_of_ble_eq_true rfl) dX8_tell_2 zy200 rfl ?_
  rintro v s1 ⟨b2, rfl, hRs1, h⟩
  show zt l g (d + 1) M_X8_tell 5 [.ref 164, .int p0, .int p1, .int p2, .int p3, .int p4, zJ] [.int (zb b2)] s1 _
  refine z_ifb_eq (pt := 59) dX8_tell_5 (by decide) rfl (fun c => ?_) (fun c => ?_)
  · have h := zif h (by rw [c]; exact Bool.false_ne_true)
    refine z_iconst (v := (-1 : Int32)) dX8_tell_59 (by decide) rfl ?_
    exact z_ret (some (.int (-1 : Int32))) (Or.inr (Or.inl ⟨_, _, rfl, rfl, rfl, dX8_tell_60⟩)) zN200 ⟨_, rfl, h⟩
  · have h := zit h c
    refine z_iload_n (i := 2) dX8_tell_8 rfl rfl rfl ?_
    refine z_callS (as := [.int p1]) k_X8_areMinutes m_X8_198 rfl h rfl (Nat.le_of_ble_eq_true rfl) dX8_tell_9 zy200 rfl ?_
    rintro v s3 ⟨b4, rfl, hRs3, h⟩
    show zt l g (d + 1) M_X8_tell 12 [.ref 164, .int p0, .int p1, .int p2, .int p3, .int p4, zJ] [.int (zb b4)] s3 _
    refine z_ifb_eq (pt := 59) dX8_tell_12 (by decide) rfl (fun c => ?_) (fun c => ?_)
    · have h := zif h (by rw [c]; exact Bool.false_ne_true)
      refine z_iconst (v := (-1 : Int32)) dX8_tell_59 (by decide) rfl ?_
      exact z_ret (some (.int (-1 : Int32))) (Or.inr (Or.inl ⟨_, _, rfl, rfl, rfl, dX8_tell_60⟩)) zN200 ⟨_, rfl, h⟩
    · have h := zit h c
      refine z_iload_n (i := 3) dX8_tell_15 rfl rfl rfl ?_
      refine z_callS (as := [.int p2]) k_X8_isView m_X8_265 rfl h rfl (Nat.le_of_ble_eq_true rfl) dX8_tell_16 zy200 rfl ?_
      rintro v s5 ⟨b6, rfl, hRs5, h⟩
      show zt l g (d + 1) M_X8_tell 19 [.ref 164, .int p0, .int p1, .int p2, .int p3, .int p4, zJ] [.int (zb b6)] s5 _
      refine z_ifb_eq (pt := 59) dX8_tell_19 (by decide) rfl (fun c => ?_) (fun c => ?_)
      · have h := zif h (by rw [c]; exact Bool.false_ne_true)
        refine z_iconst (v := (-1 : Int32)) dX8_tell_59 (by decide) rfl ?_
        exact z_ret (some (.int (-1 : Int32))) (Or.inr (Or.inl ⟨_, _, rfl, rfl, rfl, dX8_tell_60⟩)) zN200 ⟨_, rfl, h⟩
      · have h := zit h c
        refine z_iload dX8_tell_22 rfl rfl ?_
        refine z_callS (as := [.int p3]) k_X8_isView m_X8_265 rfl h rfl (Nat.le_of_ble_eq_true rfl) dX8_tell_24 zy200 rfl ?_
        rintro v s7 ⟨b8, rfl, hRs7, h⟩
        show zt l g (d + 1) M_X8_tell 27 [.ref 164, .int p0, .int p1, .int p2, .int p3, .int p4, zJ] [.int (zb b8)] s7 _
        refine z_ifb_eq (pt := 59) dX8_tell_27 (by decide) rfl (fun c => ?_) (fun c => ?_)
        · have h := zif h (by rw [c]; exact Bool.false_ne_true)
          refine z_iconst (v := (-1 : Int32)) dX8_tell_59 (by decide) rfl ?_
          exact z_ret (some (.int (-1 : Int32))) (Or.inr (Or.inl ⟨_, _, rfl, rfl, rfl, dX8_tell_60⟩)) zN200 ⟨_, rfl, h⟩
        · have h := zit h c
          refine z_iload dX8_tell_30 rfl rfl ?_
          refine z_i2l dX8_tell_32 rfl ?_
          refine z_lconst (v := (1 : Int64)) dX8_tell_33 (by decide) rfl ?_
          refine z_ldc2 (v := (19 : Int64)) q_X8_268 dX8_tell_34 rfl ?_
          refine z_in m_X8_147 dX8_tell_37 (Nat.le_of_ble_eq_true rfl) rfl ?_
          refine z_ifb_eq (pt := 59) dX8_tell_40 (by decide) rfl (fun c => ?_) (fun c => ?_)
          · have h := zif h (by rw [c]; exact Bool.false_ne_true)
            refine z_iconst (v := (-1 : Int32)) dX8_tell_59 (by decide) rfl ?_
            exact z_ret (some (.int (-1 : Int32))) (Or.inr (Or.inl ⟨_, _, rfl, rfl, rfl, dX8_tell_60⟩)) zN200 ⟨_, rfl, h⟩
          · have h := zit h c
            refine z_iload dX8_tell_43 rfl rfl ?_
            refine z_bipush (v := (10 : Int32)) dX8_tell_45 (by decide) rfl ?_
            refine z_icmp_eq (pt := 59) dX8_tell_47 (by decide) rfl (fun c => ?_) (fun c => ?_)
            · have h := zit h c
              refine z_iconst (v := (-1 : Int32)) dX8_tell_59 (by decide) rfl ?_
              exact z_ret (some (.int (-1 : Int32))) (Or.inr (Or.inl ⟨_, _, rfl, rfl, rfl, dX8_tell_60⟩)) zN200 ⟨_, rfl, h⟩
            · have h := zif h c
              refine z_aload_n (i := 0) dX8_tell_50 rfl rfl rfl ?_
              refine z_getI (x := s7.1 164 24) rfl f_X8_270 i_164 rfl dX8_tell_51 rfl ?_
              refine z_bipush (v := (60 : Int32)) dX8_tell_54 (by decide) rfl ?_
              refine z_icmp_ne (pt := 61) dX8_tell_56 (by decide) rfl (fun c => ?_) (fun c => ?_)
              · have h := zif h c
                refine z_aload_n (i := 0) dX8_tell_61 rfl rfl rfl ?_
                refine z_getR (q := 182) f_X8_63 i_164 rfl (r_164_23 (zRok_of hRs7 (zRok_of hRs5 (zRok_of hRs3 (zRok_of hRs1 hR))))) (by decide) dX8_tell_62 rfl ?_
                refine z_aload_n (i := 0) dX8_tell_65 rfl rfl rfl ?_
                refine z_getI (x := s7.1 164 24) rfl f_X8_270 i_164 rfl dX8_tell_66 rfl ?_
                obtain ⟨a9, h⟩ := h
                have wa9 := vin a9
                refine z_aald (q := 183 + (s7.1 164 24).toNatClampNeg) (by decide) a_182 a9 (r_182 (zRok_of hRs7 (zRok_of hRs5 (zRok_of hRs3 (zRok_of hRs1 hR)))) a9) (by omega) dX8_tell_69 rfl ?_
                refine z_astore dX8_tell_70 (by decide) (zokd rfl) rfl ?_
                show zt l g (d + 1) M_X8_tell 72 [.ref 164, .int p0, .int p1, .int p2, .int p3, .int p4, .ref (183 + (s7.1 164 24).toNatClampNeg)] [] s7 _
                refine z_aload dX8_tell_72 rfl rfl ?_
                refine z_iconst (v := (0 : Int32)) dX8_tell_74 (by decide) rfl ?_
                refine z_iload_n (i := 1) dX8_tell_75 rfl rfl rfl ?_
                refine z_iast (a_row (p_182 a9)) (by unfold vp_in; decide) dX8_tell_76 rfl ?_
                show zt l g (d + 1) M_X8_tell 77 [.ref 164, .int p0, .int p1, .int p2, .int p3, .int p4, .ref (183 + (s7.1 164 24).toNatClampNeg)] [] (zI s7 (183 + (s7.1 164 24).toNatClampNeg) 0 p0) _
                refine z_aload dX8_tell_77 rfl rfl ?_
                refine z_iconst (v := (1 : Int32)) dX8_tell_79 (by decide) rfl ?_
                refine z_iload_n (i := 2) dX8_tell_80 rfl rfl rfl ?_
                refine z_sipush (v := (1000 : Int32)) dX8_tell_81 (by decide) rfl ?_
                refine z_idiv dX8_tell_84 (by decide) rfl ?_
                refine z_iast (a_row (p_182 a9)) (by unfold vp_in; decide) dX8_tell_85 rfl ?_
                show zt l g (d + 1) M_X8_tell 86 [.ref 164, .int p0, .int p1, .int p2, .int p3, .int p4, .ref (183 + (s7.1 164 24).toNatClampNeg)] [] (zI (zI s7 (183 + (s7.1 164 24).toNatClampNeg) 0 p0) (183 + (s7.1 164 24).toNatClampNeg) 1 (p1 / (1000 : Int32))) _
                refine z_aload dX8_tell_86 rfl rfl ?_
                refine z_iconst (v := (2 : Int32)) dX8_tell_88 (by decide) rfl ?_
                refine z_iload_n (i := 2) dX8_tell_89 rfl rfl rfl ?_
                refine z_sipush (v := (1000 : Int32)) dX8_tell_90 (by decide) rfl ?_
                refine z_irem dX8_tell_93 (by decide) rfl ?_
                refine z_iast (a_row (p_182 a9)) (by unfold vp_in; decide) dX8_tell_94 rfl ?_
                show zt l g (d + 1) M_X8_tell 95 [.ref 164, .int p0, .int p1, .int p2, .int p3, .int p4, .ref (183 + (s7.1 164 24).toNatClampNeg)] [] (zI (zI (zI s7 (183 + (s7.1 164 24).toNatClampNeg) 0 p0) (183 + (s7.1 164 24).toNatClampNeg) 1 (p1 / (1000 : Int32))) (183 + (s7.1 164 24).toNatClampNeg) 2 (p1 % (1000 : Int32))) _
                refine z_aload dX8_tell_95 rfl rfl ?_
                refine z_iconst (v := (3 : Int32)) dX8_tell_97 (by decide) rfl ?_
                refine z_iload_n (i := 3) dX8_tell_98 rfl rfl rfl ?_
                refine z_sipush (v := (1000 : Int32)) dX8_tell_99 (by decide) rfl ?_
                refine z_idiv dX8_tell_102 (by decide) rfl ?_
                refine z_iast (a_row (p_182 a9)) (by unfold vp_in; decide) dX8_tell_103 rfl ?_
                show zt l g (d + 1) M_X8_tell 104 [.ref 164, .int p0, .int p1, .int p2, .int p3, .int p4, .ref (183 + (s7.1 164 24).toNatClampNeg)] [] (zI (zI (zI (zI s7 (183 + (s7.1 164 24).toNatClampNeg) 0 p0) (183 + (s7.1 164 24).toNatClampNeg) 1 (p1 / (1000 : Int32))) (183 + (s7.1 164 24).toNatClampNeg) 2 (p1 % (1000 : Int32))) (183 + (s7.1 164 24).toNatClampNeg) 3 (p2 / (1000 : Int32))) _
                refine z_aload dX8_tell_104 rfl rfl ?_
                refine z_iconst (v := (4 : Int32)) dX8_tell_106 (by decide) rfl ?_
                refine z_iload_n (i := 3) dX8_tell_107 rfl rfl rfl ?_
                refine z_sipush (v := (1000 : Int32)) dX8_tell_108 (by decide) rfl ?_
                refine z_irem dX8_tell_111 (by decide) rfl ?_
                refine z_iast (a_row (p_182 a9)) (by unfold vp_in; decide) dX8_tell_112 rfl ?_
                show zt l g (d + 1) M_X8_tell 113 [.ref 164, .int p0, .int p1, .int p2, .int p3, .int p4, .ref (183 + (s7.1 164 24).toNatClampNeg)] [] (zI (zI (zI (zI (zI s7 (183 + (s7.1 164 24).toNatClampNeg) 0 p0) (183 + (s7.1 164 24).toNatClampNeg) 1 (p1 / (1000 : Int32))) (183 + (s7.1 164 24).toNatClampNeg) 2 (p1 % (1000 : Int32))) (183 + (s7.1 164 24).toNatClampNeg) 3 (p2 / (1000 : Int32))) (183 + (s7.1 164 24).toNatClampNeg) 4 (p2 % (1000 : Int32))) _
                refine z_aload dX8_tell_113 rfl rfl ?_
                refine z_iconst (v := (5 : Int32)) dX8_tell_115 (by decide) rfl ?_
                refine z_iload dX8_tell_116 rfl rfl ?_
                refine z_sipush (v := (1000 : Int32)) dX8_tell_118 (by decide) rfl ?_
                refine z_idiv dX8_tell_121 (by decide) rfl ?_
                refine z_iast (a_row (p_182 a9)) (by unfold vp_in; decide) dX8_tell_122 rfl ?_
                show zt l g (d + 1) M_X8_tell 123 [.ref 164, .int p0, .int p1, .int p2, .int p3, .int p4, .ref (183 + (s7.1 164 24).toNatClampNeg)] [] (zI (zI (zI (zI (zI (zI s7 (183 + (s7.1 164 24).toNatClampNeg) 0 p0) (183 + (s7.1 164 24).toNatClampNeg) 1 (p1 / (1000 : Int32))) (183 + (s7.1 164 24).toNatClampNeg) 2 (p1 % (1000 : Int32))) (183 + (s7.1 164 24).toNatClampNeg) 3 (p2 / (1000 : Int32))) (183 + (s7.1 164 24).toNatClampNeg) 4 (p2 % (1000 : Int32))) (183 + (s7.1 164 24).toNatClampNeg) 5 (p3 / (1000 : Int32))) _
                refine z_aload dX8_tell_123 rfl rfl ?_
                refine z_bipush (v := (6 : Int32)) dX8_tell_125 (by decide) rfl ?_
                refine z_iload dX8_tell_127 rfl rfl ?_
                refine z_sipush (v := (1000 : Int32)) dX8_tell_129 (by decide) rfl ?_
                refine z_irem dX8_tell_132 (by decide) rfl ?_
                refine z_iast (a_row (p_182 a9)) (by unfold vp_in; decide) dX8_tell_133 rfl ?_
                show zt l g (d + 1) M_X8_tell 134 [.ref 164, .int p0, .int p1, .int p2, .int p3, .int p4, .ref (183 + (s7.1 164 24).toNatClampNeg)] [] (zI (zI (zI (zI (zI (zI (zI s7 (183 + (s7.1 164 24).toNatClampNeg) 0 p0) (183 + (s7.1 164 24).toNatClampNeg) 1 (p1 / (1000 : Int32))) (183 + (s7.1 164 24).toNatClampNeg) 2 (p1 % (1000 : Int32))) (183 + (s7.1 164 24).toNatClampNeg) 3 (p2 / (1000 : Int32))) (183 + (s7.1 164 24).toNatClampNeg) 4 (p2 % (1000 : Int32))) (183 + (s7.1 164 24).toNatClampNeg) 5 (p3 / (1000 : Int32))) (183 + (s7.1 164 24).toNatClampNeg) 6 (p3 % (1000 : Int32))) _
                refine z_aload dX8_tell_134 rfl rfl ?_
                refine z_bipush (v := (7 : Int32)) dX8_tell_136 (by decide) rfl ?_
                refine z_iload dX8_tell_138 rfl rfl ?_
                refine z_bipush (v := (10 : Int32)) dX8_tell_140 (by decide) rfl ?_
                refine z_irem dX8_tell_142 (by decide) rfl ?_
                refine z_iast (a_row (p_182 a9)) (by unfold vp_in; decide) dX8_tell_143 rfl ?_
                show zt l g (d + 1) M_X8_tell 144 [.ref 164, .int p0, .int p1, .int p2, .int p3, .int p4, .ref (183 + (s7.1 164 24).toNatClampNeg)] [] (zI (zI (zI (zI (zI (zI (zI (zI s7 (183 + (s7.1 164 24).toNatClampNeg) 0 p0) (183 + (s7.1 164 24).toNatClampNeg) 1 (p1 / (1000 : Int32))) (183 + (s7.1 164 24).toNatClampNeg) 2 (p1 % (1000 : Int32))) (183 + (s7.1 164 24).toNatClampNeg) 3 (p2 / (1000 : Int32))) (183 + (s7.1 164 24).toNatClampNeg) 4 (p2 % (1000 : Int32))) (183 + (s7.1 164 24).toNatClampNeg) 5 (p3 / (1000 : Int32))) (183 + (s7.1 164 24).toNatClampNeg) 6 (p3 % (1000 : Int32))) (183 + (s7.1 164 24).toNatClampNeg) 7 (p4 % (10 : Int32))) _
                refine z_aload dX8_tell_144 rfl rfl ?_
                refine z_bipush (v := (8 : Int32)) dX8_tell_146 (by decide) rfl ?_
                refine z_iload dX8_tell_148 rfl rfl ?_
                refine z_bipush (v := (10 : Int32)) dX8_tell_150 (by decide) rfl ?_
                refine z_idiv dX8_tell_152 (by decide) rfl ?_
                refine z_iast (a_row (p_182 a9)) (by unfold vp_in; decide) dX8_tell_153 rfl ?_
                show zt l g (d + 1) M_X8_tell 154 [.ref 164, .int p0, .int p1, .int p2, .int p3, .int p4, .ref (183 + (s7.1 164 24).toNatClampNeg)] [] (zI (zI (zI (zI (zI (zI (zI (zI (zI s7 (183 + (s7.1 164 24).toNatClampNeg) 0 p0) (183 + (s7.1 164 24).toNatClampNeg) 1 (p1 / (1000 : Int32))) (183 + (s7.1 164 24).toNatClampNeg) 2 (p1 % (1000 : Int32))) (183 + (s7.1 164 24).toNatClampNeg) 3 (p2 / (1000 : Int32))) (183 + (s7.1 164 24).toNatClampNeg) 4 (p2 % (1000 : Int32))) (183 + (s7.1 164 24).toNatClampNeg) 5 (p3 / (1000 : Int32))) (183 + (s7.1 164 24).toNatClampNeg) 6 (p3 % (1000 : Int32))) (183 + (s7.1 164 24).toNatClampNeg) 7 (p4 % (10 : Int32))) (183 + (s7.1 164 24).toNatClampNeg) 8 (p4 / (10 : Int32))) _
                refine z_aload_n (i := 0) dX8_tell_154 rfl rfl rfl ?_
                refine z_dup dX8_tell_155 rfl rfl ?_
                refine z_getI (x := s7.1 164 24) ((zI_k (by decide)).trans ((zI_k (by decide)).trans ((zI_k (by decide)).trans ((zI_k (by decide)).trans ((zI_k (by decide)).trans ((zI_k (by decide)).trans ((zI_k (by decide)).trans ((zI_k (by decide)).trans (zI_k (by decide)))))))))) f_X8_270 i_164 rfl dX8_tell_156 rfl ?_
                refine z_iconst (v := (1 : Int32)) dX8_tell_159 (by decide) rfl ?_
                refine z_iadd dX8_tell_160 rfl ?_
                refine z_putI f_X8_270 i_164 rfl (Or.inl rfl) rfl rfl dX8_tell_161 rfl ?_
                refine z_aload_n (i := 0) dX8_tell_164 rfl rfl rfl ?_
                refine z_getI (x := (s7.1 164 24) + (1 : Int32)) zI_eq f_X8_270 i_164 rfl dX8_tell_165 rfl ?_
                refine z_iconst (v := (1 : Int32)) dX8_tell_168 (by decide) rfl ?_
                refine z_isub dX8_tell_169 rfl ?_
                exact z_ret (some (.int (((s7.1 164 24) + (1 : Int32)) - (1 : Int32)))) (Or.inr (Or.inl ⟨_, _, rfl, rfl, rfl, dX8_tell_170⟩)) zN200 ⟨_, rfl, h⟩
              · have h := zit h c
                refine z_iconst (v := (-1 : Int32)) dX8_tell_59 (by decide) rfl ?_
                exact z_ret (some (.int (-1 : Int32))) (Or.inr (Or.inl ⟨_, _, rfl, rfl, rfl, dX8_tell_60⟩)) zN200 ⟨_, rfl, h⟩
theorem dX8_undo_0 : decode cX8_undo 0 = .ok (.aload_n 0, 1) := by decide +kernel
theorem dX8_undo_1 : decode cX8_undo 1 = .ok (.getfield 270, 3) := by decide +kernel
theorem dX8_undo_4 : decode cX8_undo 4 = .ok (.ifCond .ne 5, 3) := by decide +kernel
theorem dX8_undo_7 : decode cX8_undo 7 = .ok (.iconst (-1), 1) := by decide +kernel
theorem dX8_undo_8 : decode cX8_undo 8 = .ok (.ireturn, 1) := by decide +kernel
theorem dX8_undo_9 : decode cX8_undo 9 = .ok (.aload_n 0, 1) := by decide +kernel
theorem dX8_undo_10 : decode cX8_undo 10 = .ok (.dup, 1) := by decide +kernel
theorem dX8_undo_11 : decode cX8_undo 11 = .ok (.getfield 270, 3) := by decide +kernel
theorem dX8_undo_14 : decode cX8_undo 14 = .ok (.iconst 1, 1) := by decide +kernel
theorem dX8_undo_15 : decode cX8_undo 15 = .ok (.isub, 1) := by decide +kernel
theorem dX8_undo_16 : decode cX8_undo 16 = .ok (.putfield 270, 3) := by decide +kernel
theorem dX8_undo_19 : decode cX8_undo 19 = .ok (.aload_n 0, 1) := by decide +kernel
theorem dX8_undo_20 : decode cX8_undo 20 = .ok (.getfield 270, 3) := by decide +kernel
theorem dX8_undo_23 : decode cX8_undo 23 = .ok (.ireturn, 1) := by decide +kernel
set_option maxHeartbeats 4000000 in
set_option maxRecDepth 100000 in
theorem t_X8_undo {l : Launch} {g : zG} {d : Nat} {s : zS} (hR : zRok s)  {K : Int32 → zS → Prop} (h : (if (s.1 164 24) = 0 then K (-1 : Int32) s else K ((s.1 164 24) - (1 : Int32)) (zI s 164 24 ((s.1 164 24) - (1 : Int32))))) : zc l g d M_X8_undo [.ref 164] s (zKi K) := by
  refine zCall_of k_X8_undo (Nat.le_of_ble_eq_true rfl) (Nat.le_refl _) (fun _ => ?_)
  show zt l g d M_X8_undo 0 [.ref 164] [] s (zKi K)
  refine z_aload_n (i := 0) dX8_undo_0 rfl rfl rfl ?_
  refine z_getI (x := s.1 164 24) rfl f_X8_270 i_164 rfl dX8_undo_1 rfl ?_
  refine z_if_ne (pt := 9) dX8_undo_4 (by decide) rfl (fun c => ?_) (fun c => ?_)
  · have h := zif h c
    refine z_aload_n (i := 0) dX8_undo_9 rfl rfl rfl ?_
    refine z_dup dX8_undo_10 rfl rfl ?_
    refine z_getI (x := s.1 164 24) rfl f_X8_270 i_164 rfl dX8_undo_11 rfl ?_
    refine z_iconst (v := (1 : Int32)) dX8_undo_14 (by decide) rfl ?_
    refine z_isub dX8_undo_15 rfl ?_
    refine z_putI f_X8_270 i_164 rfl (Or.inl rfl) rfl rfl dX8_undo_16 rfl ?_
    refine z_aload_n (i := 0) dX8_undo_19 rfl rfl rfl ?_
    refine z_getI (x := (s.1 164 24) - (1 : Int32)) zI_eq f_X8_270 i_164 rfl dX8_undo_20 rfl ?_
    exact z_ret (some (.int ((s.1 164 24) - (1 : Int32)))) (Or.inr (Or.inl ⟨_, _, rfl, rfl, rfl, dX8_undo_23⟩)) zN200 ⟨_, rfl, h⟩
  · have h := zit h c
    refine z_iconst (v := (-1 : Int32)) dX8_undo_7 (by decide) rfl ?_
    exact z_ret (some (.int (-1 : Int32))) (Or.inr (Or.inl ⟨_, _, rfl, rfl, rfl, dX8_undo_8⟩)) zN200 ⟨_, rfl, h⟩
theorem dX8_off_0 : decode cX8_off 0 = .ok (.iload_n 1, 1) := by decide +kernel
theorem dX8_off_1 : decode cX8_off 1 = .ok (.i2l, 1) := by decide +kernel
theorem dX8_off_2 : decode cX8_off 2 = .ok (.lconst 0, 1) := by decide +kernel
theorem dX8_off_3 : decode cX8_off 3 = .ok (.ldc2_w 273, 3) := by decide +kernel
theorem dX8_off_6 : decode cX8_off 6 = .ok (.invokestatic 147, 3) := by decide +kernel
theorem dX8_off_9 : decode cX8_off 9 = .ok (.ifCond .eq 15, 3) := by decide +kernel
theorem dX8_off_12 : decode cX8_off 12 = .ok (.iload_n 2, 1) := by decide +kernel
theorem dX8_off_13 : decode cX8_off 13 = .ok (.i2l, 1) := by decide +kernel
theorem dX8_off_14 : decode cX8_off 14 = .ok (.lconst 0, 1) := by decide +kernel
theorem dX8_off_15 : decode cX8_off 15 = .ok (.ldc2_w 275, 3) := by decide +kernel
theorem dX8_off_18 : decode cX8_off 18 = .ok (.invokestatic 147, 3) := by decide +kernel
theorem dX8_off_21 : decode cX8_off 21 = .ok (.ifCond .ne 5, 3) := by decide +kernel
theorem dX8_off_24 : decode cX8_off 24 = .ok (.iconst 0, 1) := by decide +kernel
theorem dX8_off_25 : decode cX8_off 25 = .ok (.ireturn, 1) := by decide +kernel
theorem dX8_off_26 : decode cX8_off 26 = .ok (.aload_n 0, 1) := by decide +kernel
theorem dX8_off_27 : decode cX8_off 27 = .ok (.iload_n 1, 1) := by decide +kernel
theorem dX8_off_28 : decode cX8_off 28 = .ok (.putfield 66, 3) := by decide +kernel
theorem dX8_off_31 : decode cX8_off 31 = .ok (.aload_n 0, 1) := by decide +kernel
theorem dX8_off_32 : decode cX8_off 32 = .ok (.iload_n 2, 1) := by decide +kernel
theorem dX8_off_33 : decode cX8_off 33 = .ok (.putfield 70, 3) := by decide +kernel
theorem dX8_off_36 : decode cX8_off 36 = .ok (.iconst 1, 1) := by decide +kernel
theorem dX8_off_37 : decode cX8_off 37 = .ok (.ireturn, 1) := by decide +kernel
set_option maxHeartbeats 4000000 in
set_option maxRecDepth 100000 in
theorem t_X8_off {l : Launch} {g : zG} {d : Nat} {s : zS} (hR : zRok s) {p0 : Int32} {p1 : Int32} {K : Bool → zS → Prop} (h : (if (zinr p0.toInt64 (0 : Int64) (32 : Int64)) = true then (if (zinr p1.toInt64 (0 : Int64) (200 : Int64)) = true then K true (zI (zI s 164 25 p0) 164 26 p1) else K false s) else K false s)) : zc l g (d + 1) M_X8_off [.ref 164, .int p0, .int p1] s (zKz K) := by
  refine zCall_of k_X8_off (Nat.le_of_ble_eq_true rfl) (Nat.le_refl _) (fun _ => ?_)
  show zt l g (d + 1) M_X8_off 0 [.ref 164, .int p0, .int p1] [] s (zKz K)
  refine z_iload_n (i := 1) dX8_off_0 rfl rfl rfl ?_
  refine z_i2l dX8_off_1 rfl ?_
  refine z_lconst (v := (0 : Int64)) dX8_off_2 (by decide) rfl ?_
  refine z_ldc2 (v := (32 : Int64)) q_X8_273 dX8_off_3 rfl ?_
  refine z_in m_X8_147 dX8_off_6 (Nat.le_of_ble_eq_true rfl) rfl ?_
  refine z_ifb_eq (pt := 24) dX8_off_9 (by decide) rfl (fun c => ?_) (fun c => ?_)
  · have h := zif h (by rw [c]; exact Bool.false_ne_true)
    refine z_iconst (v := (0 : Int32)) dX8_off_24 (by decide) rfl ?_
    exact z_ret (some (.int (zb false))) (Or.inr (Or.inl ⟨_, _, rfl, rfl, zb_nar _, dX8_off_25⟩)) zN200 ⟨_, rfl, h⟩
  · have h := zit h c
    refine z_iload_n (i := 2) dX8_off_12 rfl rfl rfl ?_
    refine z_i2l dX8_off_13 rfl ?_
    refine z_lconst (v := (0 : Int64)) dX8_off_14 (by decide) rfl ?_
    refine z_ldc2 (v := (200 : Int64)) q_X8_275 dX8_off_15 rfl ?_
    refine z_in m_X8_147 dX8_off_18 (Nat.le_of_ble_eq_true rfl) rfl ?_
    refine z_ifb_ne (pt := 26) dX8_off_21 (by decide) rfl (fun c => ?_) (fun c => ?_)
    · have h := zit h c
      refine z_aload_n (i := 0) dX8_off_26 rfl rfl rfl ?_
      refine z_iload_n (i := 1) dX8_off_27 rfl rfl rfl ?_
      refine z_putI f_X8_66 i_164 rfl (Or.inl rfl) rfl rfl dX8_off_28 rfl ?_
      refine z_aload_n (i := 0) dX8_off_31 rfl rfl rfl ?_
      refine z_iload_n (i := 2) dX8_off_32 rfl rfl rfl ?_
      refine z_putI f_X8_70 i_164 rfl (Or.inl rfl) rfl rfl dX8_off_33 rfl ?_
      refine z_iconst (v := (1 : Int32)) dX8_off_36 (by decide) rfl ?_
      exact z_ret (some (.int (zb true))) (Or.inr (Or.inl ⟨_, _, rfl, rfl, zb_nar _, dX8_off_37⟩)) zN200 ⟨_, rfl, h⟩
    · have h := zif h (by rw [c]; exact Bool.false_ne_true)
      refine z_iconst (v := (0 : Int32)) dX8_off_24 (by decide) rfl ?_
      exact z_ret (some (.int (zb false))) (Or.inr (Or.inl ⟨_, _, rfl, rfl, zb_nar _, dX8_off_25⟩)) zN200 ⟨_, rfl, h⟩
theorem dX8_isTelling_0 : decode cX8_isTelling 0 = .ok (.iload_n 1, 1) := by decide +kernel
theorem dX8_isTelling_1 : decode cX8_isTelling 1 = .ok (.i2l, 1) := by decide +kernel
theorem dX8_isTelling_2 : decode cX8_isTelling 2 = .ok (.lconst 0, 1) := by decide +kernel
theorem dX8_isTelling_3 : decode cX8_isTelling 3 = .ok (.aload_n 0, 1) := by decide +kernel
theorem dX8_isTelling_4 : decode cX8_isTelling 4 = .ok (.getfield 270, 3) := by decide +kernel
theorem dX8_isTelling_7 : decode cX8_isTelling 7 = .ok (.iconst 1, 1) := by decide +kernel
theorem dX8_isTelling_8 : decode cX8_isTelling 8 = .ok (.isub, 1) := by decide +kernel
theorem dX8_isTelling_9 : decode cX8_isTelling 9 = .ok (.i2l, 1) := by decide +kernel
theorem dX8_isTelling_10 : decode cX8_isTelling 10 = .ok (.invokestatic 147, 3) := by decide +kernel
theorem dX8_isTelling_13 : decode cX8_isTelling 13 = .ok (.ireturn, 1) := by decide +kernel
set_option maxHeartbeats 4000000 in
set_option maxRecDepth 100000 in
theorem t_X8_isTelling {l : Launch} {g : zG} {d : Nat} {s : zS} (hR : zRok s) {p0 : Int32} {K : Bool → zS → Prop} (h : K (zinr p0.toInt64 (0 : Int64) (((s.1 164 24) - (1 : Int32)).toInt64)) s) : zc l g (d + 1) M_X8_isTelling [.ref 164, .int p0] s (zKz K) := by
  refine zCall_of k_X8_isTelling (Nat.le_of_ble_eq_true rfl) (Nat.le_refl _) (fun _ => ?_)
  show zt l g (d + 1) M_X8_isTelling 0 [.ref 164, .int p0] [] s (zKz K)
  refine z_iload_n (i := 1) dX8_isTelling_0 rfl rfl rfl ?_
  refine z_i2l dX8_isTelling_1 rfl ?_
  refine z_lconst (v := (0 : Int64)) dX8_isTelling_2 (by decide) rfl ?_
  refine z_aload_n (i := 0) dX8_isTelling_3 rfl rfl rfl ?_
  refine z_getI (x := s.1 164 24) rfl f_X8_270 i_164 rfl dX8_isTelling_4 rfl ?_
  refine z_iconst (v := (1 : Int32)) dX8_isTelling_7 (by decide) rfl ?_
  refine z_isub dX8_isTelling_8 rfl ?_
  refine z_i2l dX8_isTelling_9 rfl ?_
  refine z_in m_X8_147 dX8_isTelling_10 (Nat.le_of_ble_eq_true rfl) rfl ?_
  exact z_ret (some (.int (zb (zinr p0.toInt64 (0 : Int64) (((s.1 164 24) - (1 : Int32)).toInt64))))) (Or.inr (Or.inl ⟨_, _, rfl, rfl, zb_nar _, dX8_isTelling_13⟩)) zN200 ⟨_, rfl, h⟩
theorem dX8_telling_0 : decode cX8_telling 0 = .ok (.aload_n 0, 1) := by decide +kernel
theorem dX8_telling_1 : decode cX8_telling 1 = .ok (.iload_n 1, 1) := by decide +kernel
theorem dX8_telling_2 : decode cX8_telling 2 = .ok (.invokevirtual 277, 3) := by decide +kernel
theorem dX8_telling_5 : decode cX8_telling 5 = .ok (.ifCond .eq 26, 3) := by decide +kernel
theorem dX8_telling_8 : decode cX8_telling 8 = .ok (.iload_n 2, 1) := by decide +kernel
theorem dX8_telling_9 : decode cX8_telling 9 = .ok (.i2l, 1) := by decide +kernel
theorem dX8_telling_10 : decode cX8_telling 10 = .ok (.lconst 0, 1) := by decide +kernel
theorem dX8_telling_11 : decode cX8_telling 11 = .ok (.ldc2_w 280, 3) := by decide +kernel
theorem dX8_telling_14 : decode cX8_telling 14 = .ok (.invokestatic 147, 3) := by decide +kernel
theorem dX8_telling_17 : decode cX8_telling 17 = .ok (.ifCond .eq 14, 3) := by decide +kernel
theorem dX8_telling_20 : decode cX8_telling 20 = .ok (.aload_n 0, 1) := by decide +kernel
theorem dX8_telling_21 : decode cX8_telling 21 = .ok (.getfield 63, 3) := by decide +kernel
theorem dX8_telling_24 : decode cX8_telling 24 = .ok (.iload_n 1, 1) := by decide +kernel
theorem dX8_telling_25 : decode cX8_telling 25 = .ok (.aaload, 1) := by decide +kernel
theorem dX8_telling_26 : decode cX8_telling 26 = .ok (.iload_n 2, 1) := by decide +kernel
theorem dX8_telling_27 : decode cX8_telling 27 = .ok (.iaload, 1) := by decide +kernel
theorem dX8_telling_28 : decode cX8_telling 28 = .ok (.goto 4, 3) := by decide +kernel
theorem dX8_telling_31 : decode cX8_telling 31 = .ok (.iconst (-1), 1) := by decide +kernel
theorem dX8_telling_32 : decode cX8_telling 32 = .ok (.ireturn, 1) := by decide +kernel
set_option maxHeartbeats 4000000 in
set_option maxRecDepth 100000 in
theorem t_X8_telling {l : Launch} {g : zG} {d : Nat} {s : zS} (hR : zRok s) {p0 : Int32} {p1 : Int32} {K : Int32 → zS → Prop} (h : (zc l g d M_X8_isTelling [.ref 164, .int p0] s (zKz (fun b2 s1 => s1.2.2.1 = s.2.2.1 ∧ (if b2 = true then (if (zinr p1.toInt64 (0 : Int64) (8 : Int64)) = true then (vp_in p0 60 ∧ (vp_in p1 9 ∧ K (s1.1 (183 + p0.toNatClampNeg) p1.toNatClampNeg) s1)) else K (-1 : Int32) s1) else K (-1 : Int32) s1))))) : zc l g (d + 1) M_X8_telling [.ref 164, .int p0, .int p1] s (zKi K) := by
  refine zCall_of k_X8_telling (Nat.le_of_ble_eq_true rfl) (Nat.le_refl _) (fun _ => ?_)
  show zt l g (d + 1) M_X8_telling 0 [.ref 164, .int p0, .int p1] [] s (zKi K)
  refine z_aload_n (i := 0) dX8_telling_0 rfl rfl rfl ?_
  refine z_iload_n (i := 1) dX8_telling_1 rfl rfl rfl ?_
  refine z_callV k_X8_isTelling m_X8_277 (zRec_of i_164) rfl h rfl (Nat.le_of_ble_eq_true rfl) dX8_telling_2 zy200 rfl ?_
  rintro v s1 ⟨b2, rfl, hRs1, h⟩
  show zt l g (d + 1) M_X8_telling 5 [.ref 164, .int p0, .int p1] [.int (zb b2)] s1 _
  refine z_ifb_eq (pt := 31) dX8_telling_5 (by decide) rfl (fun c => ?_) (fun c => ?_)
  · have h := zif h (by rw [c]; exact Bool.false_ne_true)
    refine z_iconst (v := (-1 : Int32)) dX8_telling_31 (by decide) rfl ?_
    exact z_ret (some (.int (-1 : Int32))) (Or.inr (Or.inl ⟨_, _, rfl, rfl, rfl, dX8_telling_32⟩)) zN200 ⟨_, rfl, h⟩
  · have h := zit h c
    refine z_iload_n (i := 2) dX8_telling_8 rfl rfl rfl ?_
    refine z_i2l dX8_telling_9 rfl ?_
    refine z_lconst (v := (0 : Int64)) dX8_telling_10 (by decide) rfl ?_
    refine z_ldc2 (v := (8 : Int64)) q_X8_280 dX8_telling_11 rfl ?_
    refine z_in m_X8_147 dX8_telling_14 (Nat.le_of_ble_eq_true rfl) rfl ?_
    refine z_ifb_eq (pt := 31) dX8_telling_17 (by decide) rfl (fun c => ?_) (fun c => ?_)
    · have h := zif h (by rw [c]; exact Bool.false_ne_true)
      refine z_iconst (v := (-1 : Int32)) dX8_telling_31 (by decide) rfl ?_
      exact z_ret (some (.int (-1 : Int32))) (Or.inr (Or.inl ⟨_, _, rfl, rfl, rfl, dX8_telling_32⟩)) zN200 ⟨_, rfl, h⟩
    · have h := zit h c
      refine z_aload_n (i := 0) dX8_telling_20 rfl rfl rfl ?_
      refine z_getR (q := 182) f_X8_63 i_164 rfl (r_164_23 (zRok_of hRs1 hR)) (by decide) dX8_telling_21 rfl ?_
      refine z_iload_n (i := 1) dX8_telling_24 rfl rfl rfl ?_
      obtain ⟨a3, h⟩ := h
      have wa3 := vin a3
      refine z_aald (q := 183 + p0.toNatClampNeg) (by decide) a_182 a3 (r_182 (zRok_of hRs1 hR) a3) (by omega) dX8_telling_25 rfl ?_
      refine z_iload_n (i := 2) dX8_telling_26 rfl rfl rfl ?_
      obtain ⟨a4, h⟩ := h
      have wa4 := vin a4
      refine z_iald (x := s1.1 (183 + p0.toNatClampNeg) p1.toNatClampNeg) rfl (a_row (p_182 a3)) a4 dX8_telling_27 rfl ?_
      refine z_goto (pn := 32) dX8_telling_28 (by decide) ?_
      exact z_ret (some (.int (s1.1 (183 + p0.toNatClampNeg) p1.toNatClampNeg))) (Or.inr (Or.inl ⟨_, _, rfl, rfl, rfl, dX8_telling_32⟩)) zN200 ⟨_, rfl, h⟩
theorem dX8_apart_0 : decode cX8_apart 0 = .ok (.iload_n 0, 1) := by decide +kernel
theorem dX8_apart_1 : decode cX8_apart 1 = .ok (.iload_n 1, 1) := by decide +kernel
theorem dX8_apart_2 : decode cX8_apart 2 = .ok (.isub, 1) := by decide +kernel
theorem dX8_apart_3 : decode cX8_apart 3 = .ok (.invokestatic 229, 3) := by decide +kernel
theorem dX8_apart_6 : decode cX8_apart 6 = .ok (.istore_n 2, 1) := by decide +kernel
theorem dX8_apart_7 : decode cX8_apart 7 = .ok (.iload_n 2, 1) := by decide +kernel
theorem dX8_apart_8 : decode cX8_apart 8 = .ok (.sipush 256, 3) := by decide +kernel
theorem dX8_apart_11 : decode cX8_apart 11 = .ok (.iload_n 2, 1) := by decide +kernel
theorem dX8_apart_12 : decode cX8_apart 12 = .ok (.isub, 1) := by decide +kernel
theorem dX8_apart_13 : decode cX8_apart 13 = .ok (.invokestatic 165, 3) := by decide +kernel
theorem dX8_apart_16 : decode cX8_apart 16 = .ok (.ireturn, 1) := by decide +kernel
set_option maxHeartbeats 4000000 in
set_option maxRecDepth 100000 in
theorem t_X8_apart {l : Launch} {g : zG} {d : Nat} {s : zS} (hR : zRok s) {p0 : Int32} {p1 : Int32} {K : Int32 → zS → Prop} (h : K (zmin (zabs (p0 - p1)) ((256 : Int32) - (zabs (p0 - p1)))) s) : zc l g (d + 1) M_X8_apart [.int p0, .int p1] s (zKi K) := by
  refine zCall_of k_X8_apart (Nat.le_of_ble_eq_true rfl) (Nat.le_refl _) (fun _ => ?_)
  show zt l g (d + 1) M_X8_apart 0 [.int p0, .int p1, zJ] [] s (zKi K)
  refine z_iload_n (i := 0) dX8_apart_0 rfl rfl rfl ?_
  refine z_iload_n (i := 1) dX8_apart_1 rfl rfl rfl ?_
  refine z_isub dX8_apart_2 rfl ?_
  refine z_mabs m_X8_229 dX8_apart_3 (Nat.le_of_ble_eq_true rfl) rfl ?_
  refine z_istore_n (i := 2) dX8_apart_6 rfl (by decide) (zokd rfl) rfl ?_
  show zt l g (d + 1) M_X8_apart 7 [.int p0, .int p1, .int (zabs (p0 - p1))] [] s _
  refine z_iload_n (i := 2) dX8_apart_7 rfl rfl rfl ?_
  refine z_sipush (v := (256 : Int32)) dX8_apart_8 (by decide) rfl ?_
  refine z_iload_n (i := 2) dX8_apart_11 rfl rfl rfl ?_
  refine z_isub dX8_apart_12 rfl ?_
  refine z_mmin m_X8_165 dX8_apart_13 (Nat.le_of_ble_eq_true rfl) rfl ?_
  exact z_ret (some (.int (zmin (zabs (p0 - p1)) ((256 : Int32) - (zabs (p0 - p1)))))) (Or.inr (Or.inl ⟨_, _, rfl, rfl, rfl, dX8_apart_16⟩)) zN200 ⟨_, rfl, h⟩
theorem dX8_isNear_0 : decode cX8_isNear 0 = .ok (.aload_n 2, 1) := by decide +kernel
theorem dX8_isNear_1 : decode cX8_isNear 1 = .ok (.iconst 1, 1) := by decide +kernel
theorem dX8_isNear_2 : decode cX8_isNear 2 = .ok (.iload_n 3, 1) := by decide +kernel
theorem dX8_isNear_3 : decode cX8_isNear 3 = .ok (.iadd, 1) := by decide +kernel
theorem dX8_isNear_4 : decode cX8_isNear 4 = .ok (.iaload, 1) := by decide +kernel
theorem dX8_isNear_5 : decode cX8_isNear 5 = .ok (.istore 4, 2) := by decide +kernel
theorem dX8_isNear_7 : decode cX8_isNear 7 = .ok (.aload_n 0, 1) := by decide +kernel
theorem dX8_isNear_8 : decode cX8_isNear 8 = .ok (.iload_n 1, 1) := by decide +kernel
theorem dX8_isNear_9 : decode cX8_isNear 9 = .ok (.aload_n 2, 1) := by decide +kernel
theorem dX8_isNear_10 : decode cX8_isNear 10 = .ok (.iconst 0, 1) := by decide +kernel
theorem dX8_isNear_11 : decode cX8_isNear 11 = .ok (.iaload, 1) := by decide +kernel
theorem dX8_isNear_12 : decode cX8_isNear 12 = .ok (.iload 4, 2) := by decide +kernel
theorem dX8_isNear_14 : decode cX8_isNear 14 = .ok (.invokevirtual 255, 3) := by decide +kernel
theorem dX8_isNear_17 : decode cX8_isNear 17 = .ok (.ifCond .eq 62, 3) := by decide +kernel
theorem dX8_isNear_20 : decode cX8_isNear 20 = .ok (.aload_n 0, 1) := by decide +kernel
theorem dX8_isNear_21 : decode cX8_isNear 21 = .ok (.iload_n 1, 1) := by decide +kernel
theorem dX8_isNear_22 : decode cX8_isNear 22 = .ok (.aload_n 2, 1) := by decide +kernel
theorem dX8_isNear_23 : decode cX8_isNear 23 = .ok (.iconst 0, 1) := by decide +kernel
theorem dX8_isNear_24 : decode cX8_isNear 24 = .ok (.iaload, 1) := by decide +kernel
theorem dX8_isNear_25 : decode cX8_isNear 25 = .ok (.iload 4, 2) := by decide +kernel
theorem dX8_isNear_27 : decode cX8_isNear 27 = .ok (.invokevirtual 259, 3) := by decide +kernel
theorem dX8_isNear_30 : decode cX8_isNear 30 = .ok (.aload_n 2, 1) := by decide +kernel
theorem dX8_isNear_31 : decode cX8_isNear 31 = .ok (.iconst 3, 1) := by decide +kernel
theorem dX8_isNear_32 : decode cX8_isNear 32 = .ok (.iconst 2, 1) := by decide +kernel
theorem dX8_isNear_33 : decode cX8_isNear 33 = .ok (.iload_n 3, 1) := by decide +kernel
theorem dX8_isNear_34 : decode cX8_isNear 34 = .ok (.imul, 1) := by decide +kernel
theorem dX8_isNear_35 : decode cX8_isNear 35 = .ok (.iadd, 1) := by decide +kernel
theorem dX8_isNear_36 : decode cX8_isNear 36 = .ok (.iaload, 1) := by decide +kernel
theorem dX8_isNear_37 : decode cX8_isNear 37 = .ok (.invokestatic 282, 3) := by decide +kernel
theorem dX8_isNear_40 : decode cX8_isNear 40 = .ok (.aload_n 0, 1) := by decide +kernel
theorem dX8_isNear_41 : decode cX8_isNear 41 = .ok (.getfield 66, 3) := by decide +kernel
theorem dX8_isNear_44 : decode cX8_isNear 44 = .ok (.if_icmp .gt 35, 3) := by decide +kernel
theorem dX8_isNear_47 : decode cX8_isNear 47 = .ok (.aload_n 0, 1) := by decide +kernel
theorem dX8_isNear_48 : decode cX8_isNear 48 = .ok (.iload_n 1, 1) := by decide +kernel
theorem dX8_isNear_49 : decode cX8_isNear 49 = .ok (.aload_n 2, 1) := by decide +kernel
theorem dX8_isNear_50 : decode cX8_isNear 50 = .ok (.iconst 0, 1) := by decide +kernel
theorem dX8_isNear_51 : decode cX8_isNear 51 = .ok (.iaload, 1) := by decide +kernel
theorem dX8_isNear_52 : decode cX8_isNear 52 = .ok (.iload 4, 2) := by decide +kernel
theorem dX8_isNear_54 : decode cX8_isNear 54 = .ok (.invokevirtual 261, 3) := by decide +kernel
theorem dX8_isNear_57 : decode cX8_isNear 57 = .ok (.aload_n 2, 1) := by decide +kernel
theorem dX8_isNear_58 : decode cX8_isNear 58 = .ok (.iconst 4, 1) := by decide +kernel
theorem dX8_isNear_59 : decode cX8_isNear 59 = .ok (.iconst 2, 1) := by decide +kernel
theorem dX8_isNear_60 : decode cX8_isNear 60 = .ok (.iload_n 3, 1) := by decide +kernel
theorem dX8_isNear_61 : decode cX8_isNear 61 = .ok (.imul, 1) := by decide +kernel
theorem dX8_isNear_62 : decode cX8_isNear 62 = .ok (.iadd, 1) := by decide +kernel
theorem dX8_isNear_63 : decode cX8_isNear 63 = .ok (.iaload, 1) := by decide +kernel
theorem dX8_isNear_64 : decode cX8_isNear 64 = .ok (.isub, 1) := by decide +kernel
theorem dX8_isNear_65 : decode cX8_isNear 65 = .ok (.invokestatic 229, 3) := by decide +kernel
theorem dX8_isNear_68 : decode cX8_isNear 68 = .ok (.aload_n 0, 1) := by decide +kernel
theorem dX8_isNear_69 : decode cX8_isNear 69 = .ok (.getfield 70, 3) := by decide +kernel
theorem dX8_isNear_72 : decode cX8_isNear 72 = .ok (.if_icmp .gt 7, 3) := by decide +kernel
theorem dX8_isNear_75 : decode cX8_isNear 75 = .ok (.iconst 1, 1) := by decide +kernel
theorem dX8_isNear_76 : decode cX8_isNear 76 = .ok (.goto 4, 3) := by decide +kernel
theorem dX8_isNear_79 : decode cX8_isNear 79 = .ok (.iconst 0, 1) := by decide +kernel
theorem dX8_isNear_80 : decode cX8_isNear 80 = .ok (.ireturn, 1) := by decide +kernel
set_option maxHeartbeats 4000000 in
set_option maxRecDepth 100000 in
theorem t_X8_isNear {l : Launch} {g : zG} {d : Nat} {s : zS} (hR : zRok s) {p0 : Int32} {p1 : Nat} (hp1 : 183 ≤ p1 ∧ p1 < 243) {p2 : Int32} {K : Bool → zS → Prop} (h : (vp_in ((1 : Int32) + p2) 9 ∧ (∀ v2 : Int32, v2 = s.1 p1 (((1 : Int32) + p2).toNatClampNeg) → (zc l g d M_X8_isShown [.ref 164, .int p0, .int (s.1 p1 0), .int v2] s (zKz (fun b4 s3 => s3.2.2.1 = s.2.2.1 ∧ (if b4 = true then (zc l g d M_X8_way [.ref 164, .int p0, .int (s3.1 p1 0), .int v2] s3 (zKi (fun r6 s5 => s5.2.2.1 = s3.2.2.1 ∧ (vp_in ((3 : Int32) + ((2 : Int32) * p2)) 9 ∧ (zc l g d M_X8_apart [.int r6, .int (s5.1 p1 (((3 : Int32) + ((2 : Int32) * p2)).toNatClampNeg))] s5 (zKi (fun r9 s8 => s8.2.2.1 = s5.2.2.1 ∧ (if (s8.1 164 25) < r9 then K false s8 else (zc l g d M_X8_slope [.ref 164, .int p0, .int (s8.1 p1 0), .int v2] s8 (zKi (fun r11 s10 => s10.2.2.1 = s8.2.2.1 ∧ (vp_in ((4 : Int32) + ((2 : Int32) * p2)) 9 ∧ (if (s10.1 164 26) < (zabs (r11 - (s10.1 p1 (((4 : Int32) + ((2 : Int32) * p2)).toNatClampNeg)))) then K false s10 else K true s10))))))))))))) else K false s3))))))) : zc l g (d + 1) M_X8_isNear [.ref 164, .int p0, .ref p1, .int p2] s (zKz K) := by
  refine zCall_of k_X8_isNear (Nat.le_of_ble_eq_true rfl) (Nat.le_refl _) (fun _ => ?_)
  show zt l g (d + 1) M_X8_isNear 0 [.ref 164, .int p0, .ref p1, .int p2, zJ] [] s (zKz K)
  refine z_aload_n (i := 2) dX8_isNear_0 rfl rfl rfl ?_
  refine z_iconst (v := (1 : Int32)) dX8_isNear_1 (by decide) rfl ?_
  refine z_iload_n (i := 3) dX8_isNear_2 rfl rfl rfl ?_
  refine z_iadd dX8_isNear_3 rfl ?_
  obtain ⟨a1, h⟩ := h
  have wa1 := vin a1
  refine z_iald (x := s.1 p1 (((1 : Int32) + p2).toNatClampNeg)) rfl (a_row hp1) a1 dX8_isNear_4 rfl ?_
  refine z_istore dX8_isNear_5 (by decide) (zokd rfl) rfl ?_
  obtain ⟨v2, ev2⟩ : ∃ x : Int32, x = s.1 p1 (((1 : Int32) + p2).toNatClampNeg) := ⟨_, rfl⟩
  rw [← ev2]
  have h := h v2 ev2
  show zt l g (d + 1) M_X8_isNear 7 [.ref 164, .int p0, .ref p1, .int p2, .int v2] [] s _
  refine z_aload_n (i := 0) dX8_isNear_7 rfl rfl rfl ?_
  refine z_iload_n (i := 1) dX8_isNear_8 rfl rfl rfl ?_
  refine z_aload_n (i := 2) dX8_isNear_9 rfl rfl rfl ?_
  refine z_iconst (v := (0 : Int32)) dX8_isNear_10 (by decide) rfl ?_
  refine z_iald (x := s.1 p1 0) rfl (a_row hp1) (by unfold vp_in; decide) dX8_isNear_11 rfl ?_
  refine z_iload dX8_isNear_12 rfl rfl ?_
  refine z_callV k_X8_isShown m_X8_255 (zRec_of i_164) rfl h rfl (Nat.le_of_ble_eq_true rfl) dX8_isNear_14 zy200 rfl ?_
  rintro v s3 ⟨b4, rfl, hRs3, h⟩
  show zt l g (d + 1) M_X8_isNear 17 [.ref 164, .int p0, .ref p1, .int p2, .int v2] [.int (zb b4)] s3 _
  refine z_ifb_eq (pt := 79) dX8_isNear_17 (by decide) rfl (fun c => ?_) (fun c => ?_)
  · have h := zif h (by rw [c]; exact Bool.false_ne_true)
    refine z_iconst (v := (0 : Int32)) dX8_isNear_79 (by decide) rfl ?_
    exact z_ret (some (.int (zb false))) (Or.inr (Or.inl ⟨_, _, rfl, rfl, zb_nar _, dX8_isNear_80⟩)) zN200 ⟨_, rfl, h⟩
  · have h := zit h c
    refine z_aload_n (i := 0) dX8_isNear_20 rfl rfl rfl ?_
    refine z_iload_n (i := 1) dX8_isNear_21 rfl rfl rfl ?_
    refine z_aload_n (i := 2) dX8_isNear_22 rfl rfl rfl ?_
    refine z_iconst (v := (0 : Int32)) dX8_isNear_23 (by decide) rfl ?_
    refine z_iald (x := s3.1 p1 0) rfl (a_row hp1) (by unfold vp_in; decide) dX8_isNear_24 rfl ?_
    refine z_iload dX8_isNear_25 rfl rfl ?_
    refine z_callV k_X8_way m_X8_259 (zRec_of i_164) rfl h rfl (Nat.le_of_ble_eq_true rfl) dX8_isNear_27 zy200 rfl ?_
    rintro v s5 ⟨r6, rfl, hRs5, h⟩
    show zt l g (d + 1) M_X8_isNear 30 [.ref 164, .int p0, .ref p1, .int p2, .int v2] [.int r6] s5 _
    refine z_aload_n (i := 2) dX8_isNear_30 rfl rfl rfl ?_
    refine z_iconst (v := (3 : Int32)) dX8_isNear_31 (by decide) rfl ?_
    refine z_iconst (v := (2 : Int32)) dX8_isNear_32 (by decide) rfl ?_
    refine z_iload_n (i := 3) dX8_isNear_33 rfl rfl rfl ?_
    refine z_imul dX8_isNear_34 rfl ?_
    refine z_iadd dX8_isNear_35 rfl ?_
    obtain ⟨a7, h⟩ := h
    have wa7 := vin a7
    refine z_iald (x := s5.1 p1 (((3 : Int32) + ((2 : Int32) * p2)).toNatClampNeg)) rfl (a_row hp1) a7 dX8_isNear_36 rfl ?_
    refine z_callS (as := [.int r6, .int (s5.1 p1 (((3 : Int32) + ((2 : Int32) * p2)).toNatClampNeg))]) k_X8_apart m_X8_282 rfl h rfl (Nat.le_of_ble_eq_true rfl) dX8_isNear_37 zy200 rfl ?_
    rintro v s8 ⟨r9, rfl, hRs8, h⟩
    show zt l g (d + 1) M_X8_isNear 40 [.ref 164, .int p0, .ref p1, .int p2, .int v2] [.int r9] s8 _
    refine z_aload_n (i := 0) dX8_isNear_40 rfl rfl rfl ?_
    refine z_getI (x := s8.1 164 25) rfl f_X8_66 i_164 rfl dX8_isNear_41 rfl ?_
    refine z_icmp_gt (pt := 79) dX8_isNear_44 (by decide) rfl (fun c => ?_) (fun c => ?_)
    · have h := zit h c
      refine z_iconst (v := (0 : Int32)) dX8_isNear_79 (by decide) rfl ?_
      exact z_ret (some (.int (zb false))) (Or.inr (Or.inl ⟨_, _, rfl, rfl, zb_nar _, dX8_isNear_80⟩)) zN200 ⟨_, rfl, h⟩
    · have h := zif h c
      refine z_aload_n (i := 0) dX8_isNear_47 rfl rfl rfl ?_
      refine z_iload_n (i := 1) dX8_isNear_48 rfl rfl rfl ?_
      refine z_aload_n (i := 2) dX8_isNear_49 rfl rfl rfl ?_
      refine z_iconst (v := (0 : Int32)) dX8_isNear_50 (by decide) rfl ?_
      refine z_iald (x := s8.1 p1 0) rfl (a_row hp1) (by unfold vp_in; decide) dX8_isNear_51 rfl ?_
      refine z_iload dX8_isNear_52 rfl rfl ?_
      refine z_callV k_X8_slope m_X8_261 (zRec_of i_164) rfl h rfl (Nat.le_of_ble_eq_true rfl) dX8_isNear_54 zy200 rfl ?_
      rintro v s10 ⟨r11, rfl, hRs10, h⟩
      show zt l g (d + 1) M_X8_isNear 57 [.ref 164, .int p0, .ref p1, .int p2, .int v2] [.int r11] s10 _
      refine z_aload_n (i := 2) dX8_isNear_57 rfl rfl rfl ?_
      refine z_iconst (v := (4 : Int32)) dX8_isNear_58 (by decide) rfl ?_
      refine z_iconst (v := (2 : Int32)) dX8_isNear_59 (by decide) rfl ?_
      refine z_iload_n (i := 3) dX8_isNear_60 rfl rfl rfl ?_
      refine z_imul dX8_isNear_61 rfl ?_
      refine z_iadd dX8_isNear_62 rfl ?_
      obtain ⟨a12, h⟩ := h
      have wa12 := vin a12
      refine z_iald (x := s10.1 p1 (((4 : Int32) + ((2 : Int32) * p2)).toNatClampNeg)) rfl (a_row hp1) a12 dX8_isNear_63 rfl ?_
      refine z_isub dX8_isNear_64 rfl ?_
      refine z_mabs m_X8_229 dX8_isNear_65 (Nat.le_of_ble_eq_true rfl) rfl ?_
      refine z_aload_n (i := 0) dX8_isNear_68 rfl rfl rfl ?_
      refine z_getI (x := s10.1 164 26) rfl f_X8_70 i_164 rfl dX8_isNear_69 rfl ?_
      refine z_icmp_gt (pt := 79) dX8_isNear_72 (by decide) rfl (fun c => ?_) (fun c => ?_)
      · have h := zit h c
        refine z_iconst (v := (0 : Int32)) dX8_isNear_79 (by decide) rfl ?_
        exact z_ret (some (.int (zb false))) (Or.inr (Or.inl ⟨_, _, rfl, rfl, zb_nar _, dX8_isNear_80⟩)) zN200 ⟨_, rfl, h⟩
      · have h := zif h c
        refine z_iconst (v := (1 : Int32)) dX8_isNear_75 (by decide) rfl ?_
        refine z_goto (pn := 80) dX8_isNear_76 (by decide) ?_
        exact z_ret (some (.int (zb true))) (Or.inr (Or.inl ⟨_, _, rfl, rfl, zb_nar _, dX8_isNear_80⟩)) zN200 ⟨_, rfl, h⟩
theorem dX8_fitting_0 : decode cX8_fitting 0 = .ok (.iconst 0, 1) := by decide +kernel
theorem dX8_fitting_1 : decode cX8_fitting 1 = .ok (.istore_n 2, 1) := by decide +kernel
theorem dX8_fitting_2 : decode cX8_fitting 2 = .ok (.iconst 0, 1) := by decide +kernel
theorem dX8_fitting_3 : decode cX8_fitting 3 = .ok (.istore_n 3, 1) := by decide +kernel
theorem dX8_fitting_4 : decode cX8_fitting 4 = .ok (.iload_n 3, 1) := by decide +kernel
theorem dX8_fitting_5 : decode cX8_fitting 5 = .ok (.aload_n 0, 1) := by decide +kernel
theorem dX8_fitting_6 : decode cX8_fitting 6 = .ok (.getfield 183, 3) := by decide +kernel
theorem dX8_fitting_9 : decode cX8_fitting 9 = .ok (.if_icmp .ge 49, 3) := by decide +kernel
theorem dX8_fitting_12 : decode cX8_fitting 12 = .ok (.iload_n 2, 1) := by decide +kernel
theorem dX8_fitting_13 : decode cX8_fitting 13 = .ok (.aload_n 0, 1) := by decide +kernel
theorem dX8_fitting_14 : decode cX8_fitting 14 = .ok (.iload_n 3, 1) := by decide +kernel
theorem dX8_fitting_15 : decode cX8_fitting 15 = .ok (.aload_n 0, 1) := by decide +kernel
theorem dX8_fitting_16 : decode cX8_fitting 16 = .ok (.getfield 63, 3) := by decide +kernel
theorem dX8_fitting_19 : decode cX8_fitting 19 = .ok (.iload_n 1, 1) := by decide +kernel
theorem dX8_fitting_20 : decode cX8_fitting 20 = .ok (.aaload, 1) := by decide +kernel
theorem dX8_fitting_21 : decode cX8_fitting 21 = .ok (.iconst 0, 1) := by decide +kernel
theorem dX8_fitting_22 : decode cX8_fitting 22 = .ok (.invokevirtual 285, 3) := by decide +kernel
theorem dX8_fitting_25 : decode cX8_fitting 25 = .ok (.ifCond .eq 24, 3) := by decide +kernel
theorem dX8_fitting_28 : decode cX8_fitting 28 = .ok (.aload_n 0, 1) := by decide +kernel
theorem dX8_fitting_29 : decode cX8_fitting 29 = .ok (.iload_n 3, 1) := by decide +kernel
theorem dX8_fitting_30 : decode cX8_fitting 30 = .ok (.aload_n 0, 1) := by decide +kernel
theorem dX8_fitting_31 : decode cX8_fitting 31 = .ok (.getfield 63, 3) := by decide +kernel
theorem dX8_fitting_34 : decode cX8_fitting 34 = .ok (.iload_n 1, 1) := by decide +kernel
theorem dX8_fitting_35 : decode cX8_fitting 35 = .ok (.aaload, 1) := by decide +kernel
theorem dX8_fitting_36 : decode cX8_fitting 36 = .ok (.iconst 1, 1) := by decide +kernel
theorem dX8_fitting_37 : decode cX8_fitting 37 = .ok (.invokevirtual 285, 3) := by decide +kernel
theorem dX8_fitting_40 : decode cX8_fitting 40 = .ok (.ifCond .eq 9, 3) := by decide +kernel
theorem dX8_fitting_43 : decode cX8_fitting 43 = .ok (.iconst 1, 1) := by decide +kernel
theorem dX8_fitting_44 : decode cX8_fitting 44 = .ok (.iload_n 3, 1) := by decide +kernel
theorem dX8_fitting_45 : decode cX8_fitting 45 = .ok (.ishl, 1) := by decide +kernel
theorem dX8_fitting_46 : decode cX8_fitting 46 = .ok (.goto 4, 3) := by decide +kernel
theorem dX8_fitting_49 : decode cX8_fitting 49 = .ok (.iconst 0, 1) := by decide +kernel
theorem dX8_fitting_50 : decode cX8_fitting 50 = .ok (.ior, 1) := by decide +kernel
theorem dX8_fitting_51 : decode cX8_fitting 51 = .ok (.istore_n 2, 1) := by decide +kernel
theorem dX8_fitting_52 : decode cX8_fitting 52 = .ok (.iinc 3 1, 3) := by decide +kernel
theorem dX8_fitting_55 : decode cX8_fitting 55 = .ok (.goto (-51), 3) := by decide +kernel
theorem dX8_fitting_58 : decode cX8_fitting 58 = .ok (.iload_n 2, 1) := by decide +kernel
theorem dX8_fitting_59 : decode cX8_fitting 59 = .ok (.ireturn, 1) := by decide +kernel
set_option maxHeartbeats 4000000 in
set_option maxRecDepth 100000 in
theorem t_X8_fitting {l : Launch} {g : zG} {d : Nat} {s : zS} (hR : zRok s) {p0 : Int32} {K : Int32 → zS → Prop} (h : zt l g (d + 1) M_X8_fitting 4 [.ref 164, .int p0, .int (0 : Int32), .int (0 : Int32)] [] s (zKi K)) : zc l g (d + 1) M_X8_fitting [.ref 164, .int p0] s (zKi K) := by
  refine zCall_of k_X8_fitting (Nat.le_of_ble_eq_true rfl) (Nat.le_refl _) (fun _ => ?_)
  show zt l g (d + 1) M_X8_fitting 0 [.ref 164, .int p0, zJ, zJ] [] s (zKi K)
  refine z_iconst (v := (0 : Int32)) dX8_fitting_0 (by decide) rfl ?_
  refine z_istore_n (i := 2) dX8_fitting_1 rfl (by decide) (zokd rfl) rfl ?_
  show zt l g (d + 1) M_X8_fitting 2 [.ref 164, .int p0, .int (0 : Int32), zJ] [] s _
  refine z_iconst (v := (0 : Int32)) dX8_fitting_2 (by decide) rfl ?_
  refine z_istore_n (i := 3) dX8_fitting_3 rfl (by decide) (zokd rfl) rfl ?_
  show zt l g (d + 1) M_X8_fitting 4 [.ref 164, .int p0, .int (0 : Int32), .int (0 : Int32)] [] s _
  exact h
set_option maxHeartbeats 4000000 in
set_option maxRecDepth 100000 in
theorem t_X8_fitting_4 {l : Launch} {g : zG} {d : Nat} {s : zS} (hR : zRok s) {x1 : Int32} {x2 : Int32} {x3 : Int32} {K : Int32 → zS → Prop} (h : (if (s.1 164 19) ≤ x3 then K x2 s else (vp_in x1 60 ∧ (zc l g d M_X8_isNear [.ref 164, .int x3, .ref (183 + x1.toNatClampNeg), .int (0 : Int32)] s (zKz (fun b3 s2 => s2.2.2.1 = s.2.2.1 ∧ (if b3 = true then (vp_in x1 60 ∧ (zc l g d M_X8_isNear [.ref 164, .int x3, .ref (183 + x1.toNatClampNeg), .int (1 : Int32)] s2 (zKz (fun b6 s5 => s5.2.2.1 = s2.2.2.1 ∧ (if b6 = true then (∀ v7 : Int32, v7 = x2 ||| ((1 : Int32) <<< (x3 &&& 31)) → zt l g (d + 1) M_X8_fitting 4 [.ref 164, .int x1, .int v7, .int (x3 + (1 : Int32))] [] s5 (zKi K)) else zt l g (d + 1) M_X8_fitting 4 [.ref 164, .int x1, .int (x2 ||| (0 : Int32)), .int (x3 + (1 : Int32))] [] s5 (zKi K)))))) else zt l g (d + 1) M_X8_fitting 4 [.ref 164, .int x1, .int (x2 ||| (0 : Int32)), .int (x3 + (1 : Int32))] [] s2 (zKi K)))))))) : zt l g (d + 1) M_X8_fitting 4 [.ref 164, .int x1, .int x2, .int x3] [] s (zKi K) := by
  refine z_iload_n (i := 3) dX8_fitting_4 rfl rfl rfl ?_
  refine z_aload_n (i := 0) dX8_fitting_5 rfl rfl rfl ?_
  refine z_getI (x := s.1 164 19) rfl f_X8_183 i_164 rfl dX8_fitting_6 rfl ?_
  refine z_icmp_ge (pt := 58) dX8_fitting_9 (by decide) rfl (fun c => ?_) (fun c => ?_)
  · have h := zit h c
    refine z_iload_n (i := 2) dX8_fitting_58 rfl rfl rfl ?_
    exact z_ret (some (.int x2)) (Or.inr (Or.inl ⟨_, _, rfl, rfl, rfl, dX8_fitting_59⟩)) zN200 ⟨_, rfl, h⟩
  · have h := zif h c
    refine z_iload_n (i := 2) dX8_fitting_12 rfl rfl rfl ?_
    refine z_aload_n (i := 0) dX8_fitting_13 rfl rfl rfl ?_
    refine z_iload_n (i := 3) dX8_fitting_14 rfl rfl rfl ?_
    refine z_aload_n (i := 0) dX8_fitting_15 rfl rfl rfl ?_
    refine z_getR (q := 182) f_X8_63 i_164 rfl (r_164_23 hR) (by decide) dX8_fitting_16 rfl ?_
    refine z_iload_n (i := 1) dX8_fitting_19 rfl rfl rfl ?_
    obtain ⟨a1, h⟩ := h
    have wa1 := vin a1
    refine z_aald (q := 183 + x1.toNatClampNeg) (by decide) a_182 a1 (r_182 hR a1) (by omega) dX8_fitting_20 rfl ?_
    refine z_iconst (v := (0 : Int32)) dX8_fitting_21 (by decide) rfl ?_
    refine z_callV k_X8_isNear m_X8_285 (zRec_of i_164) rfl h rfl (Nat.le_of_ble_eq_true rfl) dX8_fitting_22 zy200 rfl ?_
    rintro v s2 ⟨b3, rfl, hRs2, h⟩
    show zt l g (d + 1) M_X8_fitting 25 [.ref 164, .int x1, .int x2, .int x3] [.int (zb b3), .int x2] s2 _
    refine z_ifb_eq (pt := 49) dX8_fitting_25 (by decide) rfl (fun c => ?_) (fun c => ?_)
    · have h := zif h (by rw [c]; exact Bool.false_ne_true)
      refine z_iconst (v := (0 : Int32)) dX8_fitting_49 (by decide) rfl ?_
      refine z_ior dX8_fitting_50 rfl ?_
      refine z_istore_n (i := 2) dX8_fitting_51 rfl (by decide) (zokd rfl) rfl ?_
      show zt l g (d + 1) M_X8_fitting 52 [.ref 164, .int x1, .int (x2 ||| (0 : Int32)), .int x3] [] s2 _
      refine z_iinc (v := x3 + (1 : Int32)) dX8_fitting_52 rfl rfl (by decide) (zokd rfl) rfl ?_
      show zt l g (d + 1) M_X8_fitting 55 [.ref 164, .int x1, .int (x2 ||| (0 : Int32)), .int (x3 + (1 : Int32))] [] s2 _
      refine z_goto (pn := 4) dX8_fitting_55 (by decide) ?_
      exact h
    · have h := zit h c
      refine z_aload_n (i := 0) dX8_fitting_28 rfl rfl rfl ?_
      refine z_iload_n (i := 3) dX8_fitting_29 rfl rfl rfl ?_
      refine z_aload_n (i := 0) dX8_fitting_30 rfl rfl rfl ?_
      refine z_getR (q := 182) f_X8_63 i_164 rfl (r_164_23 (zRok_of hRs2 hR)) (by decide) dX8_fitting_31 rfl ?_
      refine z_iload_n (i := 1) dX8_fitting_34 rfl rfl rfl ?_
      obtain ⟨a4, h⟩ := h
      have wa4 := vin a4
      refine z_aald (q := 183 + x1.toNatClampNeg) (by decide) a_182 a4 (r_182 (zRok_of hRs2 hR) a4) (by omega) dX8_fitting_35 rfl ?_
      refine z_iconst (v := (1 : Int32)) dX8_fitting_36 (by decide) rfl ?_
      refine z_callV k_X8_isNear m_X8_285 (zRec_of i_164) rfl h rfl (Nat.le_of_ble_eq_true rfl) dX8_fitting_37 zy200 rfl ?_
      rintro v s5 ⟨b6, rfl, hRs5, h⟩
      show zt l g (d + 1) M_X8_fitting 40 [.ref 164, .int x1, .int x2, .int x3] [.int (zb b6), .int x2] s5 _
      refine z_ifb_eq (pt := 49) dX8_fitting_40 (by decide) rfl (fun c => ?_) (fun c => ?_)
      · have h := zif h (by rw [c]; exact Bool.false_ne_true)
        refine z_iconst (v := (0 : Int32)) dX8_fitting_49 (by decide) rfl ?_
        refine z_ior dX8_fitting_50 rfl ?_
        refine z_istore_n (i := 2) dX8_fitting_51 rfl (by decide) (zokd rfl) rfl ?_
        show zt l g (d + 1) M_X8_fitting 52 [.ref 164, .int x1, .int (x2 ||| (0 : Int32)), .int x3] [] s5 _
        refine z_iinc (v := x3 + (1 : Int32)) dX8_fitting_52 rfl rfl (by decide) (zokd rfl) rfl ?_
        show zt l g (d + 1) M_X8_fitting 55 [.ref 164, .int x1, .int (x2 ||| (0 : Int32)), .int (x3 + (1 : Int32))] [] s5 _
        refine z_goto (pn := 4) dX8_fitting_55 (by decide) ?_
        exact h
      · have h := zit h c
        refine z_iconst (v := (1 : Int32)) dX8_fitting_43 (by decide) rfl ?_
        refine z_iload_n (i := 3) dX8_fitting_44 rfl rfl rfl ?_
        refine z_ishl dX8_fitting_45 rfl ?_
        refine z_goto (pn := 50) dX8_fitting_46 (by decide) ?_
        refine z_ior dX8_fitting_50 rfl ?_
        refine z_istore_n (i := 2) dX8_fitting_51 rfl (by decide) (zokd rfl) rfl ?_
        obtain ⟨v7, ev7⟩ : ∃ x : Int32, x = x2 ||| ((1 : Int32) <<< (x3 &&& 31)) := ⟨_, rfl⟩
        rw [← ev7]
        have h := h v7 ev7
        show zt l g (d + 1) M_X8_fitting 52 [.ref 164, .int x1, .int v7, .int x3] [] s5 _
        refine z_iinc (v := x3 + (1 : Int32)) dX8_fitting_52 rfl rfl (by decide) (zokd rfl) rfl ?_
        show zt l g (d + 1) M_X8_fitting 55 [.ref 164, .int x1, .int v7, .int (x3 + (1 : Int32))] [] s5 _
        refine z_goto (pn := 4) dX8_fitting_55 (by decide) ?_
        exact h
theorem dX8_fits_0 : decode cX8_fits 0 = .ok (.aload_n 0, 1) := by decide +kernel
theorem dX8_fits_1 : decode cX8_fits 1 = .ok (.iload_n 1, 1) := by decide +kernel
theorem dX8_fits_2 : decode cX8_fits 2 = .ok (.invokevirtual 277, 3) := by decide +kernel
theorem dX8_fits_5 : decode cX8_fits 5 = .ok (.ifCond .ne 5, 3) := by decide +kernel
theorem dX8_fits_8 : decode cX8_fits 8 = .ok (.iconst (-1), 1) := by decide +kernel
theorem dX8_fits_9 : decode cX8_fits 9 = .ok (.ireturn, 1) := by decide +kernel
theorem dX8_fits_10 : decode cX8_fits 10 = .ok (.aload_n 0, 1) := by decide +kernel
theorem dX8_fits_11 : decode cX8_fits 11 = .ok (.iload_n 1, 1) := by decide +kernel
theorem dX8_fits_12 : decode cX8_fits 12 = .ok (.invokevirtual 289, 3) := by decide +kernel
theorem dX8_fits_15 : decode cX8_fits 15 = .ok (.istore_n 3, 1) := by decide +kernel
theorem dX8_fits_16 : decode cX8_fits 16 = .ok (.iload_n 2, 1) := by decide +kernel
theorem dX8_fits_17 : decode cX8_fits 17 = .ok (.iconst (-1), 1) := by decide +kernel
theorem dX8_fits_18 : decode cX8_fits 18 = .ok (.if_icmp .ne 8, 3) := by decide +kernel
theorem dX8_fits_21 : decode cX8_fits 21 = .ok (.iload_n 3, 1) := by decide +kernel
theorem dX8_fits_22 : decode cX8_fits 22 = .ok (.invokestatic 292, 3) := by decide +kernel
theorem dX8_fits_25 : decode cX8_fits 25 = .ok (.ireturn, 1) := by decide +kernel
theorem dX8_fits_26 : decode cX8_fits 26 = .ok (.iconst 0, 1) := by decide +kernel
theorem dX8_fits_27 : decode cX8_fits 27 = .ok (.istore 4, 2) := by decide +kernel
theorem dX8_fits_29 : decode cX8_fits 29 = .ok (.iconst 0, 1) := by decide +kernel
theorem dX8_fits_30 : decode cX8_fits 30 = .ok (.istore 5, 2) := by decide +kernel
theorem dX8_fits_32 : decode cX8_fits 32 = .ok (.iload 5, 2) := by decide +kernel
theorem dX8_fits_34 : decode cX8_fits 34 = .ok (.aload_n 0, 1) := by decide +kernel
theorem dX8_fits_35 : decode cX8_fits 35 = .ok (.getfield 183, 3) := by decide +kernel
theorem dX8_fits_38 : decode cX8_fits 38 = .ok (.if_icmp .ge 33, 3) := by decide +kernel
theorem dX8_fits_41 : decode cX8_fits 41 = .ok (.iload_n 3, 1) := by decide +kernel
theorem dX8_fits_42 : decode cX8_fits 42 = .ok (.iload 5, 2) := by decide +kernel
theorem dX8_fits_44 : decode cX8_fits 44 = .ok (.ishr, 1) := by decide +kernel
theorem dX8_fits_45 : decode cX8_fits 45 = .ok (.iconst 1, 1) := by decide +kernel
theorem dX8_fits_46 : decode cX8_fits 46 = .ok (.iand, 1) := by decide +kernel
theorem dX8_fits_47 : decode cX8_fits 47 = .ok (.ifCond .ne 6, 3) := by decide +kernel
theorem dX8_fits_50 : decode cX8_fits 50 = .ok (.goto 15, 3) := by decide +kernel
theorem dX8_fits_53 : decode cX8_fits 53 = .ok (.iload 4, 2) := by decide +kernel
theorem dX8_fits_55 : decode cX8_fits 55 = .ok (.iload_n 2, 1) := by decide +kernel
theorem dX8_fits_56 : decode cX8_fits 56 = .ok (.if_icmp .ne 6, 3) := by decide +kernel
theorem dX8_fits_59 : decode cX8_fits 59 = .ok (.iload 5, 2) := by decide +kernel
theorem dX8_fits_61 : decode cX8_fits 61 = .ok (.ireturn, 1) := by decide +kernel
theorem dX8_fits_62 : decode cX8_fits 62 = .ok (.iinc 4 1, 3) := by decide +kernel
theorem dX8_fits_65 : decode cX8_fits 65 = .ok (.iinc 5 1, 3) := by decide +kernel
theorem dX8_fits_68 : decode cX8_fits 68 = .ok (.goto (-36), 3) := by decide +kernel
theorem dX8_fits_71 : decode cX8_fits 71 = .ok (.iconst (-1), 1) := by decide +kernel
theorem dX8_fits_72 : decode cX8_fits 72 = .ok (.ireturn, 1) := by decide +kernel
set_option maxHeartbeats 4000000 in
set_option maxRecDepth 100000 in
theorem t_X8_fits {l : Launch} {g : zG} {d : Nat} {s : zS} (hR : zRok s) {p0 : Int32} {p1 : Int32} {K : Int32 → zS → Prop} (h : (zc l g d M_X8_isTelling [.ref 164, .int p0] s (zKz (fun b2 s1 => s1.2.2.1 = s.2.2.1 ∧ (if b2 = true then (zc l g d M_X8_fitting [.ref 164, .int p0] s1 (zKi (fun r4 s3 => s3.2.2.1 = s1.2.2.1 ∧ (if p1 = (-1 : Int32) then K (zbc r4) s3 else zt l g (d + 1) M_X8_fits 32 [.ref 164, zJ, .int p1, .int r4, .int (0 : Int32), .int (0 : Int32)] [] s3 (zKi K))))) else K (-1 : Int32) s1))))) : zc l g (d + 1) M_X8_fits [.ref 164, .int p0, .int p1] s (zKi K) := by
  refine zCall_of k_X8_fits (Nat.le_of_ble_eq_true rfl) (Nat.le_refl _) (fun _ => ?_)
  show zt l g (d + 1) M_X8_fits 0 [.ref 164, .int p0, .int p1, zJ, zJ, zJ] [] s (zKi K)
  refine z_aload_n (i := 0) dX8_fits_0 rfl rfl rfl ?_
  refine z_iload_n (i := 1) dX8_fits_1 rfl rfl rfl ?_
  refine z_callV k_X8_isTelling m_X8_277 (zRec_of i_164) rfl h rfl (Nat.le_of_ble_eq_true rfl) dX8_fits_2 zy200 rfl ?_
  rintro v s1 ⟨b2, rfl, hRs1, h⟩
  show zt l g (d + 1) M_X8_fits 5 [.ref 164, .int p0, .int p1, zJ, zJ, zJ] [.int (zb b2)] s1 _
  refine z_ifb_ne (pt := 10) dX8_fits_5 (by decide) rfl (fun c => ?_) (fun c => ?_)
  · have h := zit h c
    refine z_aload_n (i := 0) dX8_fits_10 rfl rfl rfl ?_
    refine z_iload_n (i := 1) dX8_fits_11 rfl rfl rfl ?_
    refine z_callV k_X8_fitting m_X8_289 (zRec_of i_164) rfl h rfl (Nat.le_of_ble_eq_true rfl) dX8_fits_12 zy200 rfl ?_
    rintro v s3 ⟨r4, rfl, hRs3, h⟩
    show zt l g (d + 1) M_X8_fits 15 [.ref 164, .int p0, .int p1, zJ, zJ, zJ] [.int r4] s3 _
    refine z_istore_n (i := 3) dX8_fits_15 rfl (by decide) (zokd rfl) rfl ?_
    show zt l g (d + 1) M_X8_fits 16 [.ref 164, .int p0, .int p1, .int r4, zJ, zJ] [] s3 _
    refine z_iload_n (i := 2) dX8_fits_16 rfl rfl rfl ?_
    refine z_iconst (v := (-1 : Int32)) dX8_fits_17 (by decide) rfl ?_
    refine z_icmp_ne (pt := 26) dX8_fits_18 (by decide) rfl (fun c => ?_) (fun c => ?_)
    · have h := zif h c
      refine z_iconst (v := (0 : Int32)) dX8_fits_26 (by decide) rfl ?_
      refine z_istore dX8_fits_27 (by decide) (zokd rfl) rfl ?_
      show zt l g (d + 1) M_X8_fits 29 [.ref 164, .int p0, .int p1, .int r4, .int (0 : Int32), zJ] [] s3 _
      refine z_iconst (v := (0 : Int32)) dX8_fits_29 (by decide) rfl ?_
      refine z_istore dX8_fits_30 (by decide) (zokd rfl) rfl ?_
      show zt l g (d + 1) M_X8_fits 32 [.ref 164, .int p0, .int p1, .int r4, .int (0 : Int32), .int (0 : Int32)] [] s3 _
      refine z_wk (ls' := [.ref 164, zJ, .int p1, .int r4, .int (0 : Int32), .int (0 : Int32)]) ⟨Or.inr rfl, Or.inl rfl, Or.inr rfl, Or.inr rfl, Or.inr rfl, Or.inr rfl, trivial⟩ ?_
      exact h
    · have h := zit h c
      refine z_iload_n (i := 3) dX8_fits_21 rfl rfl rfl ?_
      refine z_bitc m_X8_292 dX8_fits_22 (Nat.le_of_ble_eq_true rfl) rfl ?_
      exact z_ret (some (.int (zbc r4))) (Or.inr (Or.inl ⟨_, _, rfl, rfl, rfl, dX8_fits_25⟩)) zN200 ⟨_, rfl, h⟩
  · have h := zif h (by rw [c]; exact Bool.false_ne_true)
    refine z_iconst (v := (-1 : Int32)) dX8_fits_8 (by decide) rfl ?_
    exact z_ret (some (.int (-1 : Int32))) (Or.inr (Or.inl ⟨_, _, rfl, rfl, rfl, dX8_fits_9⟩)) zN200 ⟨_, rfl, h⟩
set_option maxHeartbeats 4000000 in
set_option maxRecDepth 100000 in
theorem t_X8_fits_32 {l : Launch} {g : zG} {d : Nat} {s : zS} (hR : zRok s) {x2 : Int32} {x3 : Int32} {x4 : Int32} {x5 : Int32} {K : Int32 → zS → Prop} (h : (if (s.1 164 19) ≤ x5 then K (-1 : Int32) s else (if ((x3 >>> (x5 &&& 31)) &&& (1 : Int32)) = 0 then zt l g (d + 1) M_X8_fits 32 [.ref 164, zJ, .int x2, .int x3, .int x4, .int (x5 + (1 : Int32))] [] s (zKi K) else (if x4 = x2 then K x5 s else zt l g (d + 1) M_X8_fits 32 [.ref 164, zJ, .int x2, .int x3, .int (x4 + (1 : Int32)), .int (x5 + (1 : Int32))] [] s (zKi K))))) : zt l g (d + 1) M_X8_fits 32 [.ref 164, zJ, .int x2, .int x3, .int x4, .int x5] [] s (zKi K) := by
  refine z_iload dX8_fits_32 rfl rfl ?_
  refine z_aload_n (i := 0) dX8_fits_34 rfl rfl rfl ?_
  refine z_getI (x := s.1 164 19) rfl f_X8_183 i_164 rfl dX8_fits_35 rfl ?_
  refine z_icmp_ge (pt := 71) dX8_fits_38 (by decide) rfl (fun c => ?_) (fun c => ?_)
  · have h := zit h c
    refine z_iconst (v := (-1 : Int32)) dX8_fits_71 (by decide) rfl ?_
    exact z_ret (some (.int (-1 : Int32))) (Or.inr (Or.inl ⟨_, _, rfl, rfl, rfl, dX8_fits_72⟩)) zN200 ⟨_, rfl, h⟩
  · have h := zif h c
    refine z_iload_n (i := 3) dX8_fits_41 rfl rfl rfl ?_
    refine z_iload dX8_fits_42 rfl rfl ?_
    refine z_ishr dX8_fits_44 rfl ?_
    refine z_iconst (v := (1 : Int32)) dX8_fits_45 (by decide) rfl ?_
    refine z_iand dX8_fits_46 rfl ?_
    refine z_if_ne (pt := 53) dX8_fits_47 (by decide) rfl (fun c => ?_) (fun c => ?_)
    · have h := zif h c
      refine z_iload dX8_fits_53 rfl rfl ?_
      refine z_iload_n (i := 2) dX8_fits_55 rfl rfl rfl ?_
      refine z_icmp_ne (pt := 62) dX8_fits_56 (by decide) rfl (fun c => ?_) (fun c => ?_)
      · have h := zif h c
        refine z_iinc (v := x4 + (1 : Int32)) dX8_fits_62 rfl rfl (by decide) (zokd rfl) rfl ?_
        show zt l g (d + 1) M_X8_fits 65 [.ref 164, zJ, .int x2, .int x3, .int (x4 + (1 : Int32)), .int x5] [] s _
        refine z_iinc (v := x5 + (1 : Int32)) dX8_fits_65 rfl rfl (by decide) (zokd rfl) rfl ?_
        show zt l g (d + 1) M_X8_fits 68 [.ref 164, zJ, .int x2, .int x3, .int (x4 + (1 : Int32)), .int (x5 + (1 : Int32))] [] s _
        refine z_goto (pn := 32) dX8_fits_68 (by decide) ?_
        exact h
      · have h := zit h c
        refine z_iload dX8_fits_59 rfl rfl ?_
        exact z_ret (some (.int x5)) (Or.inr (Or.inl ⟨_, _, rfl, rfl, rfl, dX8_fits_61⟩)) zN200 ⟨_, rfl, h⟩
    · have h := zit h c
      refine z_goto (pn := 65) dX8_fits_50 (by decide) ?_
      refine z_iinc (v := x5 + (1 : Int32)) dX8_fits_65 rfl rfl (by decide) (zokd rfl) rfl ?_
      show zt l g (d + 1) M_X8_fits 68 [.ref 164, zJ, .int x2, .int x3, .int x4, .int (x5 + (1 : Int32))] [] s _
      refine z_goto (pn := 32) dX8_fits_68 (by decide) ?_
      exact h
theorem dX8_left_0 : decode cX8_left 0 = .ok (.iconst 0, 1) := by decide +kernel
theorem dX8_left_1 : decode cX8_left 1 = .ok (.istore_n 2, 1) := by decide +kernel
theorem dX8_left_2 : decode cX8_left 2 = .ok (.iconst 0, 1) := by decide +kernel
theorem dX8_left_3 : decode cX8_left 3 = .ok (.istore_n 3, 1) := by decide +kernel
theorem dX8_left_4 : decode cX8_left 4 = .ok (.iload_n 3, 1) := by decide +kernel
theorem dX8_left_5 : decode cX8_left 5 = .ok (.aload_n 0, 1) := by decide +kernel
theorem dX8_left_6 : decode cX8_left 6 = .ok (.getfield 270, 3) := by decide +kernel
theorem dX8_left_9 : decode cX8_left 9 = .ok (.if_icmp .ge 30, 3) := by decide +kernel
theorem dX8_left_12 : decode cX8_left 12 = .ok (.aload_n 0, 1) := by decide +kernel
theorem dX8_left_13 : decode cX8_left 13 = .ok (.iload_n 3, 1) := by decide +kernel
theorem dX8_left_14 : decode cX8_left 14 = .ok (.invokevirtual 289, 3) := by decide +kernel
theorem dX8_left_17 : decode cX8_left 17 = .ok (.ifCond .eq 6, 3) := by decide +kernel
theorem dX8_left_20 : decode cX8_left 20 = .ok (.goto 13, 3) := by decide +kernel
theorem dX8_left_23 : decode cX8_left 23 = .ok (.iload_n 2, 1) := by decide +kernel
theorem dX8_left_24 : decode cX8_left 24 = .ok (.iload_n 1, 1) := by decide +kernel
theorem dX8_left_25 : decode cX8_left 25 = .ok (.if_icmp .ne 5, 3) := by decide +kernel
theorem dX8_left_28 : decode cX8_left 28 = .ok (.iload_n 3, 1) := by decide +kernel
theorem dX8_left_29 : decode cX8_left 29 = .ok (.ireturn, 1) := by decide +kernel
theorem dX8_left_30 : decode cX8_left 30 = .ok (.iinc 2 1, 3) := by decide +kernel
theorem dX8_left_33 : decode cX8_left 33 = .ok (.iinc 3 1, 3) := by decide +kernel
theorem dX8_left_36 : decode cX8_left 36 = .ok (.goto (-32), 3) := by decide +kernel
theorem dX8_left_39 : decode cX8_left 39 = .ok (.iload_n 1, 1) := by decide +kernel
theorem dX8_left_40 : decode cX8_left 40 = .ok (.iconst (-1), 1) := by decide +kernel
theorem dX8_left_41 : decode cX8_left 41 = .ok (.if_icmp .ne 7, 3) := by decide +kernel
theorem dX8_left_44 : decode cX8_left 44 = .ok (.iload_n 2, 1) := by decide +kernel
theorem dX8_left_45 : decode cX8_left 45 = .ok (.goto 4, 3) := by decide +kernel
theorem dX8_left_48 : decode cX8_left 48 = .ok (.iconst (-1), 1) := by decide +kernel
theorem dX8_left_49 : decode cX8_left 49 = .ok (.ireturn, 1) := by decide +kernel
set_option maxHeartbeats 4000000 in
set_option maxRecDepth 100000 in
theorem t_X8_left {l : Launch} {g : zG} {d : Nat} {s : zS} (hR : zRok s) {p0 : Int32} {K : Int32 → zS → Prop} (h : zt l g (d + 1) M_X8_left 4 [.ref 164, .int p0, .int (0 : Int32), .int (0 : Int32)] [] s (zKi K)) : zc l g (d + 1) M_X8_left [.ref 164, .int p0] s (zKi K) := by
  refine zCall_of k_X8_left (Nat.le_of_ble_eq_true rfl) (Nat.le_refl _) (fun _ => ?_)
  show zt l g (d + 1) M_X8_left 0 [.ref 164, .int p0, zJ, zJ] [] s (zKi K)
  refine z_iconst (v := (0 : Int32)) dX8_left_0 (by decide) rfl ?_
  refine z_istore_n (i := 2) dX8_left_1 rfl (by decide) (zokd rfl) rfl ?_
  show zt l g (d + 1) M_X8_left 2 [.ref 164, .int p0, .int (0 : Int32), zJ] [] s _
  refine z_iconst (v := (0 : Int32)) dX8_left_2 (by decide) rfl ?_
  refine z_istore_n (i := 3) dX8_left_3 rfl (by decide) (zokd rfl) rfl ?_
  show zt l g (d + 1) M_X8_left 4 [.ref 164, .int p0, .int (0 : Int32), .int (0 : Int32)] [] s _
  exact h
set_option maxHeartbeats 4000000 in
set_option maxRecDepth 100000 in
theorem t_X8_left_4 {l : Launch} {g : zG} {d : Nat} {s : zS} (hR : zRok s) {x1 : Int32} {x2 : Int32} {x3 : Int32} {K : Int32 → zS → Prop} (h : (if (s.1 164 24) ≤ x3 then (if x1 = (-1 : Int32) then K x2 s else K (-1 : Int32) s) else (zc l g d M_X8_fitting [.ref 164, .int x3] s (zKi (fun r2 s1 => s1.2.2.1 = s.2.2.1 ∧ (if r2 = 0 then (if x2 = x1 then K x3 s1 else zt l g (d + 1) M_X8_left 4 [.ref 164, .int x1, .int (x2 + (1 : Int32)), .int (x3 + (1 : Int32))] [] s1 (zKi K)) else zt l g (d + 1) M_X8_left 4 [.ref 164, .int x1, .int x2, .int (x3 + (1 : Int32))] [] s1 (zKi K))))))) : zt l g (d + 1) M_X8_left 4 [.ref 164, .int x1, .int x2, .int x3] [] s (zKi K) := by
  refine z_iload_n (i := 3) dX8_left_4 rfl rfl rfl ?_
  refine z_aload_n (i := 0) dX8_left_5 rfl rfl rfl ?_
  refine z_getI (x := s.1 164 24) rfl f_X8_270 i_164 rfl dX8_left_6 rfl ?_
  refine z_icmp_ge (pt := 39) dX8_left_9 (by decide) rfl (fun c => ?_) (fun c => ?_)
  · have h := zit h c
    refine z_iload_n (i := 1) dX8_left_39 rfl rfl rfl ?_
    refine z_iconst (v := (-1 : Int32)) dX8_left_40 (by decide) rfl ?_
    refine z_icmp_ne (pt := 48) dX8_left_41 (by decide) rfl (fun c => ?_) (fun c => ?_)
    · have h := zif h c
      refine z_iconst (v := (-1 : Int32)) dX8_left_48 (by decide) rfl ?_
      exact z_ret (some (.int (-1 : Int32))) (Or.inr (Or.inl ⟨_, _, rfl, rfl, rfl, dX8_left_49⟩)) zN200 ⟨_, rfl, h⟩
    · have h := zit h c
      refine z_iload_n (i := 2) dX8_left_44 rfl rfl rfl ?_
      refine z_goto (pn := 49) dX8_left_45 (by decide) ?_
      exact z_ret (some (.int x2)) (Or.inr (Or.inl ⟨_, _, rfl, rfl, rfl, dX8_left_49⟩)) zN200 ⟨_, rfl, h⟩
  · have h := zif h c
    refine z_aload_n (i := 0) dX8_left_12 rfl rfl rfl ?_
    refine z_iload_n (i := 3) dX8_left_13 rfl rfl rfl ?_
    refine z_callV k_X8_fitting m_X8_289 (zRec_of i_164) rfl h rfl (Nat.le_of_ble_eq_true rfl) dX8_left_14 zy200 rfl ?_
    rintro v s1 ⟨r2, rfl, hRs1, h⟩
    show zt l g (d + 1) M_X8_left 17 [.ref 164, .int x1, .int x2, .int x3] [.int r2] s1 _
    refine z_if_eq (pt := 23) dX8_left_17 (by decide) rfl (fun c => ?_) (fun c => ?_)
    · have h := zit h c
      refine z_iload_n (i := 2) dX8_left_23 rfl rfl rfl ?_
      refine z_iload_n (i := 1) dX8_left_24 rfl rfl rfl ?_
      refine z_icmp_ne (pt := 30) dX8_left_25 (by decide) rfl (fun c => ?_) (fun c => ?_)
      · have h := zif h c
        refine z_iinc (v := x2 + (1 : Int32)) dX8_left_30 rfl rfl (by decide) (zokd rfl) rfl ?_
        show zt l g (d + 1) M_X8_left 33 [.ref 164, .int x1, .int (x2 + (1 : Int32)), .int x3] [] s1 _
        refine z_iinc (v := x3 + (1 : Int32)) dX8_left_33 rfl rfl (by decide) (zokd rfl) rfl ?_
        show zt l g (d + 1) M_X8_left 36 [.ref 164, .int x1, .int (x2 + (1 : Int32)), .int (x3 + (1 : Int32))] [] s1 _
        refine z_goto (pn := 4) dX8_left_36 (by decide) ?_
        exact h
      · have h := zit h c
        refine z_iload_n (i := 3) dX8_left_28 rfl rfl rfl ?_
        exact z_ret (some (.int x3)) (Or.inr (Or.inl ⟨_, _, rfl, rfl, rfl, dX8_left_29⟩)) zN200 ⟨_, rfl, h⟩
    · have h := zif h c
      refine z_goto (pn := 33) dX8_left_20 (by decide) ?_
      refine z_iinc (v := x3 + (1 : Int32)) dX8_left_33 rfl rfl (by decide) (zokd rfl) rfl ?_
      show zt l g (d + 1) M_X8_left 36 [.ref 164, .int x1, .int x2, .int (x3 + (1 : Int32))] [] s1 _
      refine z_goto (pn := 4) dX8_left_36 (by decide) ?_
      exact h
theorem dX8_fewest_0 : decode cX8_fewest 0 = .ok (.iconst 0, 1) := by decide +kernel
theorem dX8_fewest_1 : decode cX8_fewest 1 = .ok (.istore_n 1, 1) := by decide +kernel
theorem dX8_fewest_2 : decode cX8_fewest 2 = .ok (.iload_n 1, 1) := by decide +kernel
theorem dX8_fewest_3 : decode cX8_fewest 3 = .ok (.aload_n 0, 1) := by decide +kernel
theorem dX8_fewest_4 : decode cX8_fewest 4 = .ok (.getfield 270, 3) := by decide +kernel
theorem dX8_fewest_7 : decode cX8_fewest 7 = .ok (.if_icmp .ge 20, 3) := by decide +kernel
theorem dX8_fewest_10 : decode cX8_fewest 10 = .ok (.aload_n 0, 1) := by decide +kernel
theorem dX8_fewest_11 : decode cX8_fewest 11 = .ok (.getfield 73, 3) := by decide +kernel
theorem dX8_fewest_14 : decode cX8_fewest 14 = .ok (.iload_n 1, 1) := by decide +kernel
theorem dX8_fewest_15 : decode cX8_fewest 15 = .ok (.aload_n 0, 1) := by decide +kernel
theorem dX8_fewest_16 : decode cX8_fewest 16 = .ok (.iload_n 1, 1) := by decide +kernel
theorem dX8_fewest_17 : decode cX8_fewest 17 = .ok (.invokevirtual 289, 3) := by decide +kernel
theorem dX8_fewest_20 : decode cX8_fewest 20 = .ok (.iastore, 1) := by decide +kernel
theorem dX8_fewest_21 : decode cX8_fewest 21 = .ok (.iinc 1 1, 3) := by decide +kernel
theorem dX8_fewest_24 : decode cX8_fewest 24 = .ok (.goto (-22), 3) := by decide +kernel
theorem dX8_fewest_27 : decode cX8_fewest 27 = .ok (.iconst (-1), 1) := by decide +kernel
theorem dX8_fewest_28 : decode cX8_fewest 28 = .ok (.istore_n 1, 1) := by decide +kernel
theorem dX8_fewest_29 : decode cX8_fewest 29 = .ok (.iconst 0, 1) := by decide +kernel
theorem dX8_fewest_30 : decode cX8_fewest 30 = .ok (.istore_n 2, 1) := by decide +kernel
theorem dX8_fewest_31 : decode cX8_fewest 31 = .ok (.iload_n 2, 1) := by decide +kernel
theorem dX8_fewest_32 : decode cX8_fewest 32 = .ok (.iconst 1, 1) := by decide +kernel
theorem dX8_fewest_33 : decode cX8_fewest 33 = .ok (.aload_n 0, 1) := by decide +kernel
theorem dX8_fewest_34 : decode cX8_fewest 34 = .ok (.getfield 183, 3) := by decide +kernel
theorem dX8_fewest_37 : decode cX8_fewest 37 = .ok (.ishl, 1) := by decide +kernel
theorem dX8_fewest_38 : decode cX8_fewest 38 = .ok (.if_icmp .ge 86, 3) := by decide +kernel
theorem dX8_fewest_41 : decode cX8_fewest 41 = .ok (.iload_n 1, 1) := by decide +kernel
theorem dX8_fewest_42 : decode cX8_fewest 42 = .ok (.iconst (-1), 1) := by decide +kernel
theorem dX8_fewest_43 : decode cX8_fewest 43 = .ok (.if_icmp .eq 17, 3) := by decide +kernel
theorem dX8_fewest_46 : decode cX8_fewest 46 = .ok (.iload_n 2, 1) := by decide +kernel
theorem dX8_fewest_47 : decode cX8_fewest 47 = .ok (.invokestatic 292, 3) := by decide +kernel
theorem dX8_fewest_50 : decode cX8_fewest 50 = .ok (.iload_n 1, 1) := by decide +kernel
theorem dX8_fewest_51 : decode cX8_fewest 51 = .ok (.invokestatic 292, 3) := by decide +kernel
theorem dX8_fewest_54 : decode cX8_fewest 54 = .ok (.if_icmp .lt 6, 3) := by decide +kernel
theorem dX8_fewest_57 : decode cX8_fewest 57 = .ok (.goto 61, 3) := by decide +kernel
theorem dX8_fewest_60 : decode cX8_fewest 60 = .ok (.iconst 1, 1) := by decide +kernel
theorem dX8_fewest_61 : decode cX8_fewest 61 = .ok (.istore_n 3, 1) := by decide +kernel
theorem dX8_fewest_62 : decode cX8_fewest 62 = .ok (.iconst 0, 1) := by decide +kernel
theorem dX8_fewest_63 : decode cX8_fewest 63 = .ok (.istore 4, 2) := by decide +kernel
theorem dX8_fewest_65 : decode cX8_fewest 65 = .ok (.iload 4, 2) := by decide +kernel
theorem dX8_fewest_67 : decode cX8_fewest 67 = .ok (.aload_n 0, 1) := by decide +kernel
theorem dX8_fewest_68 : decode cX8_fewest 68 = .ok (.getfield 270, 3) := by decide +kernel
theorem dX8_fewest_71 : decode cX8_fewest 71 = .ok (.if_icmp .ge 41, 3) := by decide +kernel
theorem dX8_fewest_74 : decode cX8_fewest 74 = .ok (.iload_n 3, 1) := by decide +kernel
theorem dX8_fewest_75 : decode cX8_fewest 75 = .ok (.ifCond .eq 37, 3) := by decide +kernel
theorem dX8_fewest_78 : decode cX8_fewest 78 = .ok (.aload_n 0, 1) := by decide +kernel
theorem dX8_fewest_79 : decode cX8_fewest 79 = .ok (.getfield 73, 3) := by decide +kernel
theorem dX8_fewest_82 : decode cX8_fewest 82 = .ok (.iload 4, 2) := by decide +kernel
theorem dX8_fewest_84 : decode cX8_fewest 84 = .ok (.iaload, 1) := by decide +kernel
theorem dX8_fewest_85 : decode cX8_fewest 85 = .ok (.ifCond .eq 15, 3) := by decide +kernel
theorem dX8_fewest_88 : decode cX8_fewest 88 = .ok (.aload_n 0, 1) := by decide +kernel
theorem dX8_fewest_89 : decode cX8_fewest 89 = .ok (.getfield 73, 3) := by decide +kernel
theorem dX8_fewest_92 : decode cX8_fewest 92 = .ok (.iload 4, 2) := by decide +kernel
theorem dX8_fewest_94 : decode cX8_fewest 94 = .ok (.iaload, 1) := by decide +kernel
theorem dX8_fewest_95 : decode cX8_fewest 95 = .ok (.iload_n 2, 1) := by decide +kernel
theorem dX8_fewest_96 : decode cX8_fewest 96 = .ok (.iand, 1) := by decide +kernel
theorem dX8_fewest_97 : decode cX8_fewest 97 = .ok (.ifCond .eq 7, 3) := by decide +kernel
theorem dX8_fewest_100 : decode cX8_fewest 100 = .ok (.iconst 1, 1) := by decide +kernel
theorem dX8_fewest_101 : decode cX8_fewest 101 = .ok (.goto 4, 3) := by decide +kernel
theorem dX8_fewest_104 : decode cX8_fewest 104 = .ok (.iconst 0, 1) := by decide +kernel
theorem dX8_fewest_105 : decode cX8_fewest 105 = .ok (.istore_n 3, 1) := by decide +kernel
theorem dX8_fewest_106 : decode cX8_fewest 106 = .ok (.iinc 4 1, 3) := by decide +kernel
theorem dX8_fewest_109 : decode cX8_fewest 109 = .ok (.goto (-44), 3) := by decide +kernel
theorem dX8_fewest_112 : decode cX8_fewest 112 = .ok (.iload_n 3, 1) := by decide +kernel
theorem dX8_fewest_113 : decode cX8_fewest 113 = .ok (.ifCond .eq 5, 3) := by decide +kernel
theorem dX8_fewest_116 : decode cX8_fewest 116 = .ok (.iload_n 2, 1) := by decide +kernel
theorem dX8_fewest_117 : decode cX8_fewest 117 = .ok (.istore_n 1, 1) := by decide +kernel
theorem dX8_fewest_118 : decode cX8_fewest 118 = .ok (.iinc 2 1, 3) := by decide +kernel
theorem dX8_fewest_121 : decode cX8_fewest 121 = .ok (.goto (-90), 3) := by decide +kernel
theorem dX8_fewest_124 : decode cX8_fewest 124 = .ok (.iload_n 1, 1) := by decide +kernel
theorem dX8_fewest_125 : decode cX8_fewest 125 = .ok (.ireturn, 1) := by decide +kernel
set_option maxHeartbeats 4000000 in
set_option maxRecDepth 100000 in
theorem t_X8_fewest {l : Launch} {g : zG} {d : Nat} {s : zS} (hR : zRok s)  {K : Int32 → zS → Prop} (h : zt l g (d + 1) M_X8_fewest 2 [.ref 164, .int (0 : Int32), zJ, zJ, zJ] [] s (zKi K)) : zc l g (d + 1) M_X8_fewest [.ref 164] s (zKi K) := by
  refine zCall_of k_X8_fewest (Nat.le_of_ble_eq_true rfl) (Nat.le_refl _) (fun _ => ?_)
  show zt l g (d + 1) M_X8_fewest 0 [.ref 164, zJ, zJ, zJ, zJ] [] s (zKi K)
  refine z_iconst (v := (0 : Int32)) dX8_fewest_0 (by decide) rfl ?_
  refine z_istore_n (i := 1) dX8_fewest_1 rfl (by decide) (zokd rfl) rfl ?_
  show zt l g (d + 1) M_X8_fewest 2 [.ref 164, .int (0 : Int32), zJ, zJ, zJ] [] s _
  exact h
set_option maxHeartbeats 4000000 in
set_option maxRecDepth 100000 in
theorem t_X8_fewest_2 {l : Launch} {g : zG} {d : Nat} {s : zS} (hR : zRok s) {x1 : Int32} {K : Int32 → zS → Prop} (h : (if (s.1 164 24) ≤ x1 then zt l g (d + 1) M_X8_fewest 31 [.ref 164, .int (-1 : Int32), .int (0 : Int32), zJ, zJ] [] s (zKi K) else (zc l g d M_X8_fitting [.ref 164, .int x1] s (zKi (fun r2 s1 => s1.2.2.1 = s.2.2.1 ∧ (vp_in x1 60 ∧ zt l g (d + 1) M_X8_fewest 2 [.ref 164, .int (x1 + (1 : Int32)), zJ, zJ, zJ] [] (zI s1 243 x1.toNatClampNeg r2) (zKi K))))))) : zt l g (d + 1) M_X8_fewest 2 [.ref 164, .int x1, zJ, zJ, zJ] [] s (zKi K) := by
  refine z_iload_n (i := 1) dX8_fewest_2 rfl rfl rfl ?_
  refine z_aload_n (i := 0) dX8_fewest_3 rfl rfl rfl ?_
  refine z_getI (x := s.1 164 24) rfl f_X8_270 i_164 rfl dX8_fewest_4 rfl ?_
  refine z_icmp_ge (pt := 27) dX8_fewest_7 (by decide) rfl (fun c => ?_) (fun c => ?_)
  · have h := zit h c
    refine z_iconst (v := (-1 : Int32)) dX8_fewest_27 (by decide) rfl ?_
    refine z_istore_n (i := 1) dX8_fewest_28 rfl (by decide) (zokd rfl) rfl ?_
    show zt l g (d + 1) M_X8_fewest 29 [.ref 164, .int (-1 : Int32), zJ, zJ, zJ] [] s _
    refine z_iconst (v := (0 : Int32)) dX8_fewest_29 (by decide) rfl ?_
    refine z_istore_n (i := 2) dX8_fewest_30 rfl (by decide) (zokd rfl) rfl ?_
    show zt l g (d + 1) M_X8_fewest 31 [.ref 164, .int (-1 : Int32), .int (0 : Int32), zJ, zJ] [] s _
    exact h
  · have h := zif h c
    refine z_aload_n (i := 0) dX8_fewest_10 rfl rfl rfl ?_
    refine z_getR (q := 243) f_X8_73 i_164 rfl (r_164_27 hR) (by decide) dX8_fewest_11 rfl ?_
    refine z_iload_n (i := 1) dX8_fewest_14 rfl rfl rfl ?_
    refine z_aload_n (i := 0) dX8_fewest_15 rfl rfl rfl ?_
    refine z_iload_n (i := 1) dX8_fewest_16 rfl rfl rfl ?_
    refine z_callV k_X8_fitting m_X8_289 (zRec_of i_164) rfl h rfl (Nat.le_of_ble_eq_true rfl) dX8_fewest_17 zy200 rfl ?_
    rintro v s1 ⟨r2, rfl, hRs1, h⟩
    show zt l g (d + 1) M_X8_fewest 20 [.ref 164, .int x1, zJ, zJ, zJ] [.int r2, .int x1, .ref 243] s1 _
    obtain ⟨a3, h⟩ := h
    have wa3 := vin a3
    refine z_iast a_243 a3 dX8_fewest_20 rfl ?_
    show zt l g (d + 1) M_X8_fewest 21 [.ref 164, .int x1, zJ, zJ, zJ] [] (zI s1 243 x1.toNatClampNeg r2) _
    refine z_iinc (v := x1 + (1 : Int32)) dX8_fewest_21 rfl rfl (by decide) (zokd rfl) rfl ?_
    show zt l g (d + 1) M_X8_fewest 24 [.ref 164, .int (x1 + (1 : Int32)), zJ, zJ, zJ] [] (zI s1 243 x1.toNatClampNeg r2) _
    refine z_goto (pn := 2) dX8_fewest_24 (by decide) ?_
    exact h
set_option maxHeartbeats 4000000 in
set_option maxRecDepth 100000 in
theorem t_X8_fewest_31 {l : Launch} {g : zG} {d : Nat} {s : zS} (hR : zRok s) {x1 : Int32} {x2 : Int32} {K : Int32 → zS → Prop} (h : (if ((1 : Int32) <<< ((s.1 164 19) &&& 31)) ≤ x2 then K x1 s else (if x1 = (-1 : Int32) then zt l g (d + 1) M_X8_fewest 65 [.ref 164, .int x1, .int x2, .int (1 : Int32), .int (0 : Int32)] [] s (zKi K) else (if (zbc x2) < (zbc x1) then zt l g (d + 1) M_X8_fewest 65 [.ref 164, .int x1, .int x2, .int (1 : Int32), .int (0 : Int32)] [] s (zKi K) else zt l g (d + 1) M_X8_fewest 31 [.ref 164, .int x1, .int (x2 + (1 : Int32)), zJ, zJ] [] s (zKi K))))) : zt l g (d + 1) M_X8_fewest 31 [.ref 164, .int x1, .int x2, zJ, zJ] [] s (zKi K) := by
  refine z_iload_n (i := 2) dX8_fewest_31 rfl rfl rfl ?_
  refine z_iconst (v := (1 : Int32)) dX8_fewest_32 (by decide) rfl ?_
  refine z_aload_n (i := 0) dX8_fewest_33 rfl rfl rfl ?_
  refine z_getI (x := s.1 164 19) rfl f_X8_183 i_164 rfl dX8_fewest_34 rfl ?_
  refine z_ishl dX8_fewest_37 rfl ?_
  refine z_icmp_ge (pt := 124) dX8_fewest_38 (by decide) rfl (fun c => ?_) (fun c => ?_)
  · have h := zit h c
    refine z_iload_n (i := 1) dX8_fewest_124 rfl rfl rfl ?_
    exact z_ret (some (.int x1)) (Or.inr (Or.inl ⟨_, _, rfl, rfl, rfl, dX8_fewest_125⟩)) zN200 ⟨_, rfl, h⟩
  · have h := zif h c
    refine z_iload_n (i := 1) dX8_fewest_41 rfl rfl rfl ?_
    refine z_iconst (v := (-1 : Int32)) dX8_fewest_42 (by decide) rfl ?_
    refine z_icmp_eq (pt := 60) dX8_fewest_43 (by decide) rfl (fun c => ?_) (fun c => ?_)
    · have h := zit h c
      refine z_iconst (v := (1 : Int32)) dX8_fewest_60 (by decide) rfl ?_
      refine z_istore_n (i := 3) dX8_fewest_61 rfl (by decide) (zokd rfl) rfl ?_
      show zt l g (d + 1) M_X8_fewest 62 [.ref 164, .int x1, .int x2, .int (1 : Int32), zJ] [] s _
      refine z_iconst (v := (0 : Int32)) dX8_fewest_62 (by decide) rfl ?_
      refine z_istore dX8_fewest_63 (by decide) (zokd rfl) rfl ?_
      show zt l g (d + 1) M_X8_fewest 65 [.ref 164, .int x1, .int x2, .int (1 : Int32), .int (0 : Int32)] [] s _
      exact h
    · have h := zif h c
      refine z_iload_n (i := 2) dX8_fewest_46 rfl rfl rfl ?_
      refine z_bitc m_X8_292 dX8_fewest_47 (Nat.le_of_ble_eq_true rfl) rfl ?_
      refine z_iload_n (i := 1) dX8_fewest_50 rfl rfl rfl ?_
      refine z_bitc m_X8_292 dX8_fewest_51 (Nat.le_of_ble_eq_true rfl) rfl ?_
      refine z_icmp_lt (pt := 60) dX8_fewest_54 (by decide) rfl (fun c => ?_) (fun c => ?_)
      · have h := zit h c
        refine z_iconst (v := (1 : Int32)) dX8_fewest_60 (by decide) rfl ?_
        refine z_istore_n (i := 3) dX8_fewest_61 rfl (by decide) (zokd rfl) rfl ?_
        show zt l g (d + 1) M_X8_fewest 62 [.ref 164, .int x1, .int x2, .int (1 : Int32), zJ] [] s _
        refine z_iconst (v := (0 : Int32)) dX8_fewest_62 (by decide) rfl ?_
        refine z_istore dX8_fewest_63 (by decide) (zokd rfl) rfl ?_
        show zt l g (d + 1) M_X8_fewest 65 [.ref 164, .int x1, .int x2, .int (1 : Int32), .int (0 : Int32)] [] s _
        exact h
      · have h := zif h c
        refine z_goto (pn := 118) dX8_fewest_57 (by decide) ?_
        refine z_iinc (v := x2 + (1 : Int32)) dX8_fewest_118 rfl rfl (by decide) (zokd rfl) rfl ?_
        show zt l g (d + 1) M_X8_fewest 121 [.ref 164, .int x1, .int (x2 + (1 : Int32)), zJ, zJ] [] s _
        refine z_goto (pn := 31) dX8_fewest_121 (by decide) ?_
        exact h
set_option maxHeartbeats 4000000 in
set_option maxRecDepth 100000 in
theorem t_X8_fewest_65 {l : Launch} {g : zG} {d : Nat} {s : zS} (hR : zRok s) {x1 : Int32} {x2 : Int32} {x3 : Int32} {x4 : Int32} {K : Int32 → zS → Prop} (h : (if (s.1 164 24) ≤ x4 then (if x3 = 0 then zt l g (d + 1) M_X8_fewest 31 [.ref 164, .int x1, .int (x2 + (1 : Int32)), zJ, zJ] [] s (zKi K) else zt l g (d + 1) M_X8_fewest 31 [.ref 164, .int x2, .int (x2 + (1 : Int32)), zJ, zJ] [] s (zKi K)) else (if x3 = 0 then (if x3 = 0 then zt l g (d + 1) M_X8_fewest 31 [.ref 164, .int x1, .int (x2 + (1 : Int32)), zJ, zJ] [] s (zKi K) else zt l g (d + 1) M_X8_fewest 31 [.ref 164, .int x2, .int (x2 + (1 : Int32)), zJ, zJ] [] s (zKi K)) else (vp_in x4 60 ∧ (if (s.1 243 x4.toNatClampNeg) = 0 then zt l g (d + 1) M_X8_fewest 65 [.ref 164, .int x1, .int x2, .int (1 : Int32), .int (x4 + (1 : Int32))] [] s (zKi K) else (vp_in x4 60 ∧ (if ((s.1 243 x4.toNatClampNeg) &&& x2) = 0 then zt l g (d + 1) M_X8_fewest 65 [.ref 164, .int x1, .int x2, .int (0 : Int32), .int (x4 + (1 : Int32))] [] s (zKi K) else zt l g (d + 1) M_X8_fewest 65 [.ref 164, .int x1, .int x2, .int (1 : Int32), .int (x4 + (1 : Int32))] [] s (zKi K)))))))) : zt l g (d + 1) M_X8_fewest 65 [.ref 164, .int x1, .int x2, .int x3, .int x4] [] s (zKi K) := by
  refine z_iload dX8_fewest_65 rfl rfl ?_
  refine z_aload_n (i := 0) dX8_fewest_67 rfl rfl rfl ?_
  refine z_getI (x := s.1 164 24) rfl f_X8_270 i_164 rfl dX8_fewest_68 rfl ?_
  refine z_icmp_ge (pt := 112) dX8_fewest_71 (by decide) rfl (fun c => ?_) (fun c => ?_)
  · have h := zit h c
    refine z_iload_n (i := 3) dX8_fewest_112 rfl rfl rfl ?_
    refine z_if_eq (pt := 118) dX8_fewest_113 (by decide) rfl (fun c => ?_) (fun c => ?_)
    · have h := zit h c
      refine z_iinc (v := x2 + (1 : Int32)) dX8_fewest_118 rfl rfl (by decide) (zokd rfl) rfl ?_
      show zt l g (d + 1) M_X8_fewest 121 [.ref 164, .int x1, .int (x2 + (1 : Int32)), .int x3, .int x4] [] s _
      refine z_goto (pn := 31) dX8_fewest_121 (by decide) ?_
      refine z_wk (ls' := [.ref 164, .int x1, .int (x2 + (1 : Int32)), zJ, zJ]) ⟨Or.inr rfl, Or.inr rfl, Or.inr rfl, Or.inl rfl, Or.inl rfl, trivial⟩ ?_
      exact h
    · have h := zif h c
      refine z_iload_n (i := 2) dX8_fewest_116 rfl rfl rfl ?_
      refine z_istore_n (i := 1) dX8_fewest_117 rfl (by decide) (zokd rfl) rfl ?_
      show zt l g (d + 1) M_X8_fewest 118 [.ref 164, .int x2, .int x2, .int x3, .int x4] [] s _
      refine z_iinc (v := x2 + (1 : Int32)) dX8_fewest_118 rfl rfl (by decide) (zokd rfl) rfl ?_
      show zt l g (d + 1) M_X8_fewest 121 [.ref 164, .int x2, .int (x2 + (1 : Int32)), .int x3, .int x4] [] s _
      refine z_goto (pn := 31) dX8_fewest_121 (by decide) ?_
      refine z_wk (ls' := [.ref 164, .int x2, .int (x2 + (1 : Int32)), zJ, zJ]) ⟨Or.inr rfl, Or.inr rfl, Or.inr rfl, Or.inl rfl, Or.inl rfl, trivial⟩ ?_
      exact h
  · have h := zif h c
    refine z_iload_n (i := 3) dX8_fewest_74 rfl rfl rfl ?_
    refine z_if_eq (pt := 112) dX8_fewest_75 (by decide) rfl (fun c => ?_) (fun c => ?_)
    · have h := zit h c
      refine z_iload_n (i := 3) dX8_fewest_112 rfl rfl rfl ?_
      refine z_if_eq (pt := 118) dX8_fewest_113 (by decide) rfl (fun c => ?_) (fun c => ?_)
      · have h := zit h c
        refine z_iinc (v := x2 + (1 : Int32)) dX8_fewest_118 rfl rfl (by decide) (zokd rfl) rfl ?_
        show zt l g (d + 1) M_X8_fewest 121 [.ref 164, .int x1, .int (x2 + (1 : Int32)), .int x3, .int x4] [] s _
        refine z_goto (pn := 31) dX8_fewest_121 (by decide) ?_
        refine z_wk (ls' := [.ref 164, .int x1, .int (x2 + (1 : Int32)), zJ, zJ]) ⟨Or.inr rfl, Or.inr rfl, Or.inr rfl, Or.inl rfl, Or.inl rfl, trivial⟩ ?_
        exact h
      · have h := zif h c
        refine z_iload_n (i := 2) dX8_fewest_116 rfl rfl rfl ?_
        refine z_istore_n (i := 1) dX8_fewest_117 rfl (by decide) (zokd rfl) rfl ?_
        show zt l g (d + 1) M_X8_fewest 118 [.ref 164, .int x2, .int x2, .int x3, .int x4] [] s _
        refine z_iinc (v := x2 + (1 : Int32)) dX8_fewest_118 rfl rfl (by decide) (zokd rfl) rfl ?_
        show zt l g (d + 1) M_X8_fewest 121 [.ref 164, .int x2, .int (x2 + (1 : Int32)), .int x3, .int x4] [] s _
        refine z_goto (pn := 31) dX8_fewest_121 (by decide) ?_
        refine z_wk (ls' := [.ref 164, .int x2, .int (x2 + (1 : Int32)), zJ, zJ]) ⟨Or.inr rfl, Or.inr rfl, Or.inr rfl, Or.inl rfl, Or.inl rfl, trivial⟩ ?_
        exact h
    · have h := zif h c
      refine z_aload_n (i := 0) dX8_fewest_78 rfl rfl rfl ?_
      refine z_getR (q := 243) f_X8_73 i_164 rfl (r_164_27 hR) (by decide) dX8_fewest_79 rfl ?_
      refine z_iload dX8_fewest_82 rfl rfl ?_
      obtain ⟨a1, h⟩ := h
      have wa1 := vin a1
      refine z_iald (x := s.1 243 x4.toNatClampNeg) rfl a_243 a1 dX8_fewest_84 rfl ?_
      refine z_if_eq (pt := 100) dX8_fewest_85 (by decide) rfl (fun c => ?_) (fun c => ?_)
      · have h := zit h c
        refine z_iconst (v := (1 : Int32)) dX8_fewest_100 (by decide) rfl ?_
        refine z_goto (pn := 105) dX8_fewest_101 (by decide) ?_
        refine z_istore_n (i := 3) dX8_fewest_105 rfl (by decide) (zokd rfl) rfl ?_
        show zt l g (d + 1) M_X8_fewest 106 [.ref 164, .int x1, .int x2, .int (1 : Int32), .int x4] [] s _
        refine z_iinc (v := x4 + (1 : Int32)) dX8_fewest_106 rfl rfl (by decide) (zokd rfl) rfl ?_
        show zt l g (d + 1) M_X8_fewest 109 [.ref 164, .int x1, .int x2, .int (1 : Int32), .int (x4 + (1 : Int32))] [] s _
        refine z_goto (pn := 65) dX8_fewest_109 (by decide) ?_
        exact h
      · have h := zif h c
        refine z_aload_n (i := 0) dX8_fewest_88 rfl rfl rfl ?_
        refine z_getR (q := 243) f_X8_73 i_164 rfl (r_164_27 hR) (by decide) dX8_fewest_89 rfl ?_
        refine z_iload dX8_fewest_92 rfl rfl ?_
        obtain ⟨a2, h⟩ := h
        have wa2 := vin a2
        refine z_iald (x := s.1 243 x4.toNatClampNeg) rfl a_243 a2 dX8_fewest_94 rfl ?_
        refine z_iload_n (i := 2) dX8_fewest_95 rfl rfl rfl ?_
        refine z_iand dX8_fewest_96 rfl ?_
        refine z_if_eq (pt := 104) dX8_fewest_97 (by decide) rfl (fun c => ?_) (fun c => ?_)
        · have h := zit h c
          refine z_iconst (v := (0 : Int32)) dX8_fewest_104 (by decide) rfl ?_
          refine z_istore_n (i := 3) dX8_fewest_105 rfl (by decide) (zokd rfl) rfl ?_
          show zt l g (d + 1) M_X8_fewest 106 [.ref 164, .int x1, .int x2, .int (0 : Int32), .int x4] [] s _
          refine z_iinc (v := x4 + (1 : Int32)) dX8_fewest_106 rfl rfl (by decide) (zokd rfl) rfl ?_
          show zt l g (d + 1) M_X8_fewest 109 [.ref 164, .int x1, .int x2, .int (0 : Int32), .int (x4 + (1 : Int32))] [] s _
          refine z_goto (pn := 65) dX8_fewest_109 (by decide) ?_
          exact h
        · have h := zif h c
          refine z_iconst (v := (1 : Int32)) dX8_fewest_100 (by decide) rfl ?_
          refine z_goto (pn := 105) dX8_fewest_101 (by decide) ?_
          refine z_istore_n (i := 3) dX8_fewest_105 rfl (by decide) (zokd rfl) rfl ?_
          show zt l g (d + 1) M_X8_fewest 106 [.ref 164, .int x1, .int x2, .int (1 : Int32), .int x4] [] s _
          refine z_iinc (v := x4 + (1 : Int32)) dX8_fewest_106 rfl rfl (by decide) (zokd rfl) rfl ?_
          show zt l g (d + 1) M_X8_fewest 109 [.ref 164, .int x1, .int x2, .int (1 : Int32), .int (x4 + (1 : Int32))] [] s _
          refine z_goto (pn := 65) dX8_fewest_109 (by decide) ?_
          exact h
theorem dX8_joined_0 : decode cX8_joined 0 = .ok (.aload_n 0, 1) := by decide +kernel
theorem dX8_joined_1 : decode cX8_joined 1 = .ok (.iload_n 1, 1) := by decide +kernel
theorem dX8_joined_2 : decode cX8_joined 2 = .ok (.invokevirtual 277, 3) := by decide +kernel
theorem dX8_joined_5 : decode cX8_joined 5 = .ok (.ifCond .eq 30, 3) := by decide +kernel
theorem dX8_joined_8 : decode cX8_joined 8 = .ok (.aload_n 0, 1) := by decide +kernel
theorem dX8_joined_9 : decode cX8_joined 9 = .ok (.iload_n 2, 1) := by decide +kernel
theorem dX8_joined_10 : decode cX8_joined 10 = .ok (.invokevirtual 277, 3) := by decide +kernel
theorem dX8_joined_13 : decode cX8_joined 13 = .ok (.ifCond .eq 22, 3) := by decide +kernel
theorem dX8_joined_16 : decode cX8_joined 16 = .ok (.aload_n 0, 1) := by decide +kernel
theorem dX8_joined_17 : decode cX8_joined 17 = .ok (.getfield 63, 3) := by decide +kernel
theorem dX8_joined_20 : decode cX8_joined 20 = .ok (.iload_n 1, 1) := by decide +kernel
theorem dX8_joined_21 : decode cX8_joined 21 = .ok (.aaload, 1) := by decide +kernel
theorem dX8_joined_22 : decode cX8_joined 22 = .ok (.iconst 0, 1) := by decide +kernel
theorem dX8_joined_23 : decode cX8_joined 23 = .ok (.iaload, 1) := by decide +kernel
theorem dX8_joined_24 : decode cX8_joined 24 = .ok (.aload_n 0, 1) := by decide +kernel
theorem dX8_joined_25 : decode cX8_joined 25 = .ok (.getfield 63, 3) := by decide +kernel
theorem dX8_joined_28 : decode cX8_joined 28 = .ok (.iload_n 2, 1) := by decide +kernel
theorem dX8_joined_29 : decode cX8_joined 29 = .ok (.aaload, 1) := by decide +kernel
theorem dX8_joined_30 : decode cX8_joined 30 = .ok (.iconst 0, 1) := by decide +kernel
theorem dX8_joined_31 : decode cX8_joined 31 = .ok (.iaload, 1) := by decide +kernel
theorem dX8_joined_32 : decode cX8_joined 32 = .ok (.if_icmp .ne 5, 3) := by decide +kernel
theorem dX8_joined_35 : decode cX8_joined 35 = .ok (.iconst (-1), 1) := by decide +kernel
theorem dX8_joined_36 : decode cX8_joined 36 = .ok (.ireturn, 1) := by decide +kernel
theorem dX8_joined_37 : decode cX8_joined 37 = .ok (.aload_n 0, 1) := by decide +kernel
theorem dX8_joined_38 : decode cX8_joined 38 = .ok (.getfield 63, 3) := by decide +kernel
theorem dX8_joined_41 : decode cX8_joined 41 = .ok (.iload_n 1, 1) := by decide +kernel
theorem dX8_joined_42 : decode cX8_joined 42 = .ok (.aaload, 1) := by decide +kernel
theorem dX8_joined_43 : decode cX8_joined 43 = .ok (.iconst 1, 1) := by decide +kernel
theorem dX8_joined_44 : decode cX8_joined 44 = .ok (.iaload, 1) := by decide +kernel
theorem dX8_joined_45 : decode cX8_joined 45 = .ok (.aload_n 0, 1) := by decide +kernel
theorem dX8_joined_46 : decode cX8_joined 46 = .ok (.getfield 63, 3) := by decide +kernel
theorem dX8_joined_49 : decode cX8_joined 49 = .ok (.iload_n 2, 1) := by decide +kernel
theorem dX8_joined_50 : decode cX8_joined 50 = .ok (.aaload, 1) := by decide +kernel
theorem dX8_joined_51 : decode cX8_joined 51 = .ok (.iconst 1, 1) := by decide +kernel
theorem dX8_joined_52 : decode cX8_joined 52 = .ok (.iaload, 1) := by decide +kernel
theorem dX8_joined_53 : decode cX8_joined 53 = .ok (.invokestatic 171, 3) := by decide +kernel
theorem dX8_joined_56 : decode cX8_joined 56 = .ok (.aload_n 0, 1) := by decide +kernel
theorem dX8_joined_57 : decode cX8_joined 57 = .ok (.getfield 63, 3) := by decide +kernel
theorem dX8_joined_60 : decode cX8_joined 60 = .ok (.iload_n 1, 1) := by decide +kernel
theorem dX8_joined_61 : decode cX8_joined 61 = .ok (.aaload, 1) := by decide +kernel
theorem dX8_joined_62 : decode cX8_joined 62 = .ok (.iconst 2, 1) := by decide +kernel
theorem dX8_joined_63 : decode cX8_joined 63 = .ok (.iaload, 1) := by decide +kernel
theorem dX8_joined_64 : decode cX8_joined 64 = .ok (.aload_n 0, 1) := by decide +kernel
theorem dX8_joined_65 : decode cX8_joined 65 = .ok (.getfield 63, 3) := by decide +kernel
theorem dX8_joined_68 : decode cX8_joined 68 = .ok (.iload_n 2, 1) := by decide +kernel
theorem dX8_joined_69 : decode cX8_joined 69 = .ok (.aaload, 1) := by decide +kernel
theorem dX8_joined_70 : decode cX8_joined 70 = .ok (.iconst 2, 1) := by decide +kernel
theorem dX8_joined_71 : decode cX8_joined 71 = .ok (.iaload, 1) := by decide +kernel
theorem dX8_joined_72 : decode cX8_joined 72 = .ok (.invokestatic 165, 3) := by decide +kernel
theorem dX8_joined_75 : decode cX8_joined 75 = .ok (.if_icmp .le 5, 3) := by decide +kernel
theorem dX8_joined_78 : decode cX8_joined 78 = .ok (.iconst (-1), 1) := by decide +kernel
theorem dX8_joined_79 : decode cX8_joined 79 = .ok (.ireturn, 1) := by decide +kernel
theorem dX8_joined_80 : decode cX8_joined 80 = .ok (.aload_n 0, 1) := by decide +kernel
theorem dX8_joined_81 : decode cX8_joined 81 = .ok (.iload_n 1, 1) := by decide +kernel
theorem dX8_joined_82 : decode cX8_joined 82 = .ok (.invokevirtual 289, 3) := by decide +kernel
theorem dX8_joined_85 : decode cX8_joined 85 = .ok (.istore_n 3, 1) := by decide +kernel
theorem dX8_joined_86 : decode cX8_joined 86 = .ok (.aload_n 0, 1) := by decide +kernel
theorem dX8_joined_87 : decode cX8_joined 87 = .ok (.iload_n 2, 1) := by decide +kernel
theorem dX8_joined_88 : decode cX8_joined 88 = .ok (.invokevirtual 289, 3) := by decide +kernel
theorem dX8_joined_91 : decode cX8_joined 91 = .ok (.istore 4, 2) := by decide +kernel
theorem dX8_joined_93 : decode cX8_joined 93 = .ok (.iload_n 3, 1) := by decide +kernel
theorem dX8_joined_94 : decode cX8_joined 94 = .ok (.iload 4, 2) := by decide +kernel
theorem dX8_joined_96 : decode cX8_joined 96 = .ok (.iand, 1) := by decide +kernel
theorem dX8_joined_97 : decode cX8_joined 97 = .ok (.ifCond .eq 7, 3) := by decide +kernel
theorem dX8_joined_100 : decode cX8_joined 100 = .ok (.iconst 2, 1) := by decide +kernel
theorem dX8_joined_101 : decode cX8_joined 101 = .ok (.goto 17, 3) := by decide +kernel
theorem dX8_joined_104 : decode cX8_joined 104 = .ok (.iload_n 3, 1) := by decide +kernel
theorem dX8_joined_105 : decode cX8_joined 105 = .ok (.ifCond .eq 8, 3) := by decide +kernel
theorem dX8_joined_108 : decode cX8_joined 108 = .ok (.iload 4, 2) := by decide +kernel
theorem dX8_joined_110 : decode cX8_joined 110 = .ok (.ifCond .ne 7, 3) := by decide +kernel
theorem dX8_joined_113 : decode cX8_joined 113 = .ok (.iconst 0, 1) := by decide +kernel
theorem dX8_joined_114 : decode cX8_joined 114 = .ok (.goto 4, 3) := by decide +kernel
theorem dX8_joined_117 : decode cX8_joined 117 = .ok (.iconst 1, 1) := by decide +kernel
theorem dX8_joined_118 : decode cX8_joined 118 = .ok (.ireturn, 1) := by decide +kernel
set_option maxHeartbeats 4000000 in
set_option maxRecDepth 100000 in
theorem t_X8_joined {l : Launch} {g : zG} {d : Nat} {s : zS} (hR : zRok s) {p0 : Int32} {p1 : Int32} {K : Int32 → zS → Prop} (h : (zc l g d M_X8_isTelling [.ref 164, .int p0] s (zKz (fun b2 s1 => s1.2.2.1 = s.2.2.1 ∧ (if b2 = true then (zc l g d M_X8_isTelling [.ref 164, .int p1] s1 (zKz (fun b4 s3 => s3.2.2.1 = s1.2.2.1 ∧ (if b4 = true then (vp_in p0 60 ∧ (vp_in p1 60 ∧ (if (s3.1 (183 + p0.toNatClampNeg) 0) = (s3.1 (183 + p1.toNatClampNeg) 0) then K (-1 : Int32) s3 else (vp_in p0 60 ∧ (vp_in p1 60 ∧ (vp_in p0 60 ∧ (vp_in p1 60 ∧ (if (zmax (s3.1 (183 + p0.toNatClampNeg) 1) (s3.1 (183 + p1.toNatClampNeg) 1)) ≤ (zmin (s3.1 (183 + p0.toNatClampNeg) 2) (s3.1 (183 + p1.toNatClampNeg) 2)) then (zc l g d M_X8_fitting [.ref 164, .int p0] s3 (zKi (fun r12 s11 => s11.2.2.1 = s3.2.2.1 ∧ (zc l g d M_X8_fitting [.ref 164, .int p1] s11 (zKi (fun r14 s13 => s13.2.2.1 = s11.2.2.1 ∧ (if (r12 &&& r14) = 0 then (if r12 = 0 then K (0 : Int32) s13 else (if r14 = 0 then K (0 : Int32) s13 else K (1 : Int32) s13)) else K (2 : Int32) s13))))))) else K (-1 : Int32) s3)))))))) else K (-1 : Int32) s3)))) else K (-1 : Int32) s1))))) : zc l g (d + 1) M_X8_joined [.ref 164, .int p0, .int p1] s (zKi K) := by
  refine zCall_of k_X8_joined (Nat.le_of_ble_eq_true rfl) (Nat.le_refl _) (fun _ => ?_)
  show zt l g (d + 1) M_X8_joined 0 [.ref 164, .int p0, .int p1, zJ, zJ] [] s (zKi K)
  refine z_aload_n (i := 0) dX8_joined_0 rfl rfl rfl ?_
  refine z_iload_n (i := 1) dX8_joined_1 rfl rfl rfl ?_
  refine z_callV k_X8_isTelling m_X8_277 (zRec_of i_164) rfl h rfl (Nat.le_of_ble_eq_true rfl) dX8_joined_2 zy200 rfl ?_
  rintro v s1 ⟨b2, rfl, hRs1, h⟩
  show zt l g (d + 1) M_X8_joined 5 [.ref 164, .int p0, .int p1, zJ, zJ] [.int (zb b2)] s1 _
  refine z_ifb_eq (pt := 35) dX8_joined_5 (by decide) rfl (fun c => ?_) (fun c => ?_)
  · have h := zif h (by rw [c]; exact Bool.false_ne_true)
    refine z_iconst (v := (-1 : Int32)) dX8_joined_35 (by decide) rfl ?_
    exact z_ret (some (.int (-1 : Int32))) (Or.inr (Or.inl ⟨_, _, rfl, rfl, rfl, dX8_joined_36⟩)) zN200 ⟨_, rfl, h⟩
  · have h := zit h c
    refine z_aload_n (i := 0) dX8_joined_8 rfl rfl rfl ?_
    refine z_iload_n (i := 2) dX8_joined_9 rfl rfl rfl ?_
    refine z_callV k_X8_isTelling m_X8_277 (zRec_of i_164) rfl h rfl (Nat.le_of_ble_eq_true rfl) dX8_joined_10 zy200 rfl ?_
    rintro v s3 ⟨b4, rfl, hRs3, h⟩
    show zt l g (d + 1) M_X8_joined 13 [.ref 164, .int p0, .int p1, zJ, zJ] [.int (zb b4)] s3 _
    refine z_ifb_eq (pt := 35) dX8_joined_13 (by decide) rfl (fun c => ?_) (fun c => ?_)
    · have h := zif h (by rw [c]; exact Bool.false_ne_true)
      refine z_iconst (v := (-1 : Int32)) dX8_joined_35 (by decide) rfl ?_
      exact z_ret (some (.int (-1 : Int32))) (Or.inr (Or.inl ⟨_, _, rfl, rfl, rfl, dX8_joined_36⟩)) zN200 ⟨_, rfl, h⟩
    · have h := zit h c
      refine z_aload_n (i := 0) dX8_joined_16 rfl rfl rfl ?_
      refine z_getR (q := 182) f_X8_63 i_164 rfl (r_164_23 (zRok_of hRs3 (zRok_of hRs1 hR))) (by decide) dX8_joined_17 rfl ?_
      refine z_iload_n (i := 1) dX8_joined_20 rfl rfl rfl ?_
      obtain ⟨a5, h⟩ := h
      have wa5 := vin a5
      refine z_aald (q := 183 + p0.toNatClampNeg) (by decide) a_182 a5 (r_182 (zRok_of hRs3 (zRok_of hRs1 hR)) a5) (by omega) dX8_joined_21 rfl ?_
      refine z_iconst (v := (0 : Int32)) dX8_joined_22 (by decide) rfl ?_
      refine z_iald (x := s3.1 (183 + p0.toNatClampNeg) 0) rfl (a_row (p_182 a5)) (by unfold vp_in; decide) dX8_joined_23 rfl ?_
      refine z_aload_n (i := 0) dX8_joined_24 rfl rfl rfl ?_
      refine z_getR (q := 182) f_X8_63 i_164 rfl (r_164_23 (zRok_of hRs3 (zRok_of hRs1 hR))) (by decide) dX8_joined_25 rfl ?_
      refine z_iload_n (i := 2) dX8_joined_28 rfl rfl rfl ?_
      obtain ⟨a6, h⟩ := h
      have wa6 := vin a6
      refine z_aald (q := 183 + p1.toNatClampNeg) (by decide) a_182 a6 (r_182 (zRok_of hRs3 (zRok_of hRs1 hR)) a6) (by omega) dX8_joined_29 rfl ?_
      refine z_iconst (v := (0 : Int32)) dX8_joined_30 (by decide) rfl ?_
      refine z_iald (x := s3.1 (183 + p1.toNatClampNeg) 0) rfl (a_row (p_182 a6)) (by unfold vp_in; decide) dX8_joined_31 rfl ?_
      refine z_icmp_ne (pt := 37) dX8_joined_32 (by decide) rfl (fun c => ?_) (fun c => ?_)
      · have h := zif h c
        refine z_aload_n (i := 0) dX8_joined_37 rfl rfl rfl ?_
        refine z_getR (q := 182) f_X8_63 i_164 rfl (r_164_23 (zRok_of hRs3 (zRok_of hRs1 hR))) (by decide) dX8_joined_38 rfl ?_
        refine z_iload_n (i := 1) dX8_joined_41 rfl rfl rfl ?_
        obtain ⟨a7, h⟩ := h
        have wa7 := vin a7
        refine z_aald (q := 183 + p0.toNatClampNeg) (by decide) a_182 a7 (r_182 (zRok_of hRs3 (zRok_of hRs1 hR)) a7) (by omega) dX8_joined_42 rfl ?_
        refine z_iconst (v := (1 : Int32)) dX8_joined_43 (by decide) rfl ?_
        refine z_iald (x := s3.1 (183 + p0.toNatClampNeg) 1) rfl (a_row (p_182 a7)) (by unfold vp_in; decide) dX8_joined_44 rfl ?_
        refine z_aload_n (i := 0) dX8_joined_45 rfl rfl rfl ?_
        refine z_getR (q := 182) f_X8_63 i_164 rfl (r_164_23 (zRok_of hRs3 (zRok_of hRs1 hR))) (by decide) dX8_joined_46 rfl ?_
        refine z_iload_n (i := 2) dX8_joined_49 rfl rfl rfl ?_
        obtain ⟨a8, h⟩ := h
        have wa8 := vin a8
        refine z_aald (q := 183 + p1.toNatClampNeg) (by decide) a_182 a8 (r_182 (zRok_of hRs3 (zRok_of hRs1 hR)) a8) (by omega) dX8_joined_50 rfl ?_
        refine z_iconst (v := (1 : Int32)) dX8_joined_51 (by decide) rfl ?_
        refine z_iald (x := s3.1 (183 + p1.toNatClampNeg) 1) rfl (a_row (p_182 a8)) (by unfold vp_in; decide) dX8_joined_52 rfl ?_
        refine z_mmax m_X8_171 dX8_joined_53 (Nat.le_of_ble_eq_true rfl) rfl ?_
        refine z_aload_n (i := 0) dX8_joined_56 rfl rfl rfl ?_
        refine z_getR (q := 182) f_X8_63 i_164 rfl (r_164_23 (zRok_of hRs3 (zRok_of hRs1 hR))) (by decide) dX8_joined_57 rfl ?_
        refine z_iload_n (i := 1) dX8_joined_60 rfl rfl rfl ?_
        obtain ⟨a9, h⟩ := h
        have wa9 := vin a9
        refine z_aald (q := 183 + p0.toNatClampNeg) (by decide) a_182 a9 (r_182 (zRok_of hRs3 (zRok_of hRs1 hR)) a9) (by omega) dX8_joined_61 rfl ?_
        refine z_iconst (v := (2 : Int32)) dX8_joined_62 (by decide) rfl ?_
        refine z_iald (x := s3.1 (183 + p0.toNatClampNeg) 2) rfl (a_row (p_182 a9)) (by unfold vp_in; decide) dX8_joined_63 rfl ?_
        refine z_aload_n (i := 0) dX8_joined_64 rfl rfl rfl ?_
        refine z_getR (q := 182) f_X8_63 i_164 rfl (r_164_23 (zRok_of hRs3 (zRok_of hRs1 hR))) (by decide) dX8_joined_65 rfl ?_
        refine z_iload_n (i := 2) dX8_joined_68 rfl rfl rfl ?_
        obtain ⟨a10, h⟩ := h
        have wa10 := vin a10
        refine z_aald (q := 183 + p1.toNatClampNeg) (by decide) a_182 a10 (r_182 (zRok_of hRs3 (zRok_of hRs1 hR)) a10) (by omega) dX8_joined_69 rfl ?_
        refine z_iconst (v := (2 : Int32)) dX8_joined_70 (by decide) rfl ?_
        refine z_iald (x := s3.1 (183 + p1.toNatClampNeg) 2) rfl (a_row (p_182 a10)) (by unfold vp_in; decide) dX8_joined_71 rfl ?_
        refine z_mmin m_X8_165 dX8_joined_72 (Nat.le_of_ble_eq_true rfl) rfl ?_
        refine z_icmp_le (pt := 80) dX8_joined_75 (by decide) rfl (fun c => ?_) (fun c => ?_)
        · have h := zit h c
          refine z_aload_n (i := 0) dX8_joined_80 rfl rfl rfl ?_
          refine z_iload_n (i := 1) dX8_joined_81 rfl rfl rfl ?_
          refine z_callV k_X8_fitting m_X8_289 (zRec_of i_164) rfl h rfl (Nat.le_of_ble_eq_true rfl) dX8_joined_82 zy200 rfl ?_
          rintro v s11 ⟨r12, rfl, hRs11, h⟩
          show zt l g (d + 1) M_X8_joined 85 [.ref 164, .int p0, .int p1, zJ, zJ] [.int r12] s11 _
          refine z_istore_n (i := 3) dX8_joined_85 rfl (by decide) (zokd rfl) rfl ?_
          show zt l g (d + 1) M_X8_joined 86 [.ref 164, .int p0, .int p1, .int r12, zJ] [] s11 _
          refine z_aload_n (i := 0) dX8_joined_86 rfl rfl rfl ?_
          refine z_iload_n (i := 2) dX8_joined_87 rfl rfl rfl ?_
          refine z_callV k_X8_fitting m_X8_289 (zRec_of i_164) rfl h rfl (Nat.le_of_ble_eq_true rfl) dX8_joined_88 zy200 rfl ?_
          rintro v s13 ⟨r14, rfl, hRs13, h⟩
          show zt l g (d + 1) M_X8_joined 91 [.ref 164, .int p0, .int p1, .int r12, zJ] [.int r14] s13 _
          refine z_istore dX8_joined_91 (by decide) (zokd rfl) rfl ?_
          show zt l g (d + 1) M_X8_joined 93 [.ref 164, .int p0, .int p1, .int r12, .int r14] [] s13 _
          refine z_iload_n (i := 3) dX8_joined_93 rfl rfl rfl ?_
          refine z_iload dX8_joined_94 rfl rfl ?_
          refine z_iand dX8_joined_96 rfl ?_
          refine z_if_eq (pt := 104) dX8_joined_97 (by decide) rfl (fun c => ?_) (fun c => ?_)
          · have h := zit h c
            refine z_iload_n (i := 3) dX8_joined_104 rfl rfl rfl ?_
            refine z_if_eq (pt := 113) dX8_joined_105 (by decide) rfl (fun c => ?_) (fun c => ?_)
            · have h := zit h c
              refine z_iconst (v := (0 : Int32)) dX8_joined_113 (by decide) rfl ?_
              refine z_goto (pn := 118) dX8_joined_114 (by decide) ?_
              exact z_ret (some (.int (0 : Int32))) (Or.inr (Or.inl ⟨_, _, rfl, rfl, rfl, dX8_joined_118⟩)) zN200 ⟨_, rfl, h⟩
            · have h := zif h c
              refine z_iload dX8_joined_108 rfl rfl ?_
              refine z_if_ne (pt := 117) dX8_joined_110 (by decide) rfl (fun c => ?_) (fun c => ?_)
              · have h := zif h c
                refine z_iconst (v := (1 : Int32)) dX8_joined_117 (by decide) rfl ?_
                exact z_ret (some (.int (1 : Int32))) (Or.inr (Or.inl ⟨_, _, rfl, rfl, rfl, dX8_joined_118⟩)) zN200 ⟨_, rfl, h⟩
              · have h := zit h c
                refine z_iconst (v := (0 : Int32)) dX8_joined_113 (by decide) rfl ?_
                refine z_goto (pn := 118) dX8_joined_114 (by decide) ?_
                exact z_ret (some (.int (0 : Int32))) (Or.inr (Or.inl ⟨_, _, rfl, rfl, rfl, dX8_joined_118⟩)) zN200 ⟨_, rfl, h⟩
          · have h := zif h c
            refine z_iconst (v := (2 : Int32)) dX8_joined_100 (by decide) rfl ?_
            refine z_goto (pn := 118) dX8_joined_101 (by decide) ?_
            exact z_ret (some (.int (2 : Int32))) (Or.inr (Or.inl ⟨_, _, rfl, rfl, rfl, dX8_joined_118⟩)) zN200 ⟨_, rfl, h⟩
        · have h := zif h c
          refine z_iconst (v := (-1 : Int32)) dX8_joined_78 (by decide) rfl ?_
          exact z_ret (some (.int (-1 : Int32))) (Or.inr (Or.inl ⟨_, _, rfl, rfl, rfl, dX8_joined_79⟩)) zN200 ⟨_, rfl, h⟩
      · have h := zit h c
        refine z_iconst (v := (-1 : Int32)) dX8_joined_35 (by decide) rfl ?_
        exact z_ret (some (.int (-1 : Int32))) (Or.inr (Or.inl ⟨_, _, rfl, rfl, rfl, dX8_joined_36⟩)) zN200 ⟨_, rfl, h⟩
theorem dX8_isSlope_0 : decode cX8_isSlope 0 = .ok (.iload_n 2, 1) := by decide +kernel
theorem dX8_isSlope_1 : decode cX8_isSlope 1 = .ok (.aload_n 0, 1) := by decide +kernel
theorem dX8_isSlope_2 : decode cX8_isSlope 2 = .ok (.getfield 25, 3) := by decide +kernel
theorem dX8_isSlope_5 : decode cX8_isSlope 5 = .ok (.iload_n 1, 1) := by decide +kernel
theorem dX8_isSlope_6 : decode cX8_isSlope 6 = .ok (.iaload, 1) := by decide +kernel
theorem dX8_isSlope_7 : decode cX8_isSlope 7 = .ok (.isub, 1) := by decide +kernel
theorem dX8_isSlope_8 : decode cX8_isSlope 8 = .ok (.iload_n 3, 1) := by decide +kernel
theorem dX8_isSlope_9 : decode cX8_isSlope 9 = .ok (.aload_n 0, 1) := by decide +kernel
theorem dX8_isSlope_10 : decode cX8_isSlope 10 = .ok (.getfield 28, 3) := by decide +kernel
theorem dX8_isSlope_13 : decode cX8_isSlope 13 = .ok (.iload_n 1, 1) := by decide +kernel
theorem dX8_isSlope_14 : decode cX8_isSlope 14 = .ok (.iaload, 1) := by decide +kernel
theorem dX8_isSlope_15 : decode cX8_isSlope 15 = .ok (.isub, 1) := by decide +kernel
theorem dX8_isSlope_16 : decode cX8_isSlope 16 = .ok (.iload 4, 2) := by decide +kernel
theorem dX8_isSlope_18 : decode cX8_isSlope 18 = .ok (.aload_n 0, 1) := by decide +kernel
theorem dX8_isSlope_19 : decode cX8_isSlope 19 = .ok (.iload_n 1, 1) := by decide +kernel
theorem dX8_isSlope_20 : decode cX8_isSlope 20 = .ok (.invokevirtual 233, 3) := by decide +kernel
theorem dX8_isSlope_23 : decode cX8_isSlope 23 = .ok (.isub, 1) := by decide +kernel
theorem dX8_isSlope_24 : decode cX8_isSlope 24 = .ok (.invokestatic 248, 3) := by decide +kernel
theorem dX8_isSlope_27 : decode cX8_isSlope 27 = .ok (.iload 5, 2) := by decide +kernel
theorem dX8_isSlope_29 : decode cX8_isSlope 29 = .ok (.isub, 1) := by decide +kernel
theorem dX8_isSlope_30 : decode cX8_isSlope 30 = .ok (.invokestatic 229, 3) := by decide +kernel
theorem dX8_isSlope_33 : decode cX8_isSlope 33 = .ok (.aload_n 0, 1) := by decide +kernel
theorem dX8_isSlope_34 : decode cX8_isSlope 34 = .ok (.getfield 70, 3) := by decide +kernel
theorem dX8_isSlope_37 : decode cX8_isSlope 37 = .ok (.if_icmp .gt 7, 3) := by decide +kernel
theorem dX8_isSlope_40 : decode cX8_isSlope 40 = .ok (.iconst 1, 1) := by decide +kernel
theorem dX8_isSlope_41 : decode cX8_isSlope 41 = .ok (.goto 4, 3) := by decide +kernel
theorem dX8_isSlope_44 : decode cX8_isSlope 44 = .ok (.iconst 0, 1) := by decide +kernel
theorem dX8_isSlope_45 : decode cX8_isSlope 45 = .ok (.ireturn, 1) := by decide +kernel
set_option maxHeartbeats 4000000 in
set_option maxRecDepth 100000 in
theorem t_X8_isSlope {l : Launch} {g : zG} {d : Nat} {s : zS} (hR : zRok s) {p0 : Int32} {p1 : Int32} {p2 : Int32} {p3 : Int32} {p4 : Int32} {K : Bool → zS → Prop} (h : (vp_in p0 20 ∧ (vp_in p0 20 ∧ (zc l g d M_X8_eye [.ref 164, .int p0] s (zKi (fun r4 s3 => s3.2.2.1 = s.2.2.1 ∧ (zc l g d M_X8_slopeOf [.int (p1 - (s.1 170 p0.toNatClampNeg)), .int (p2 - (s.1 171 p0.toNatClampNeg)), .int (p3 - r4)] s3 (zKi (fun r6 s5 => s5.2.2.1 = s3.2.2.1 ∧ (if (s5.1 164 26) < (zabs (r6 - p4)) then K false s5 else K true s5)))))))))) : zc l g (d + 1) M_X8_isSlope [.ref 164, .int p0, .int p1, .int p2, .int p3, .int p4] s (zKz K) := by
  refine zCall_of k_X8_isSlope (Nat.le_of_ble_eq_true rfl) (Nat.le_refl _) (fun _ => ?_)
  show zt l g (d + 1) M_X8_isSlope 0 [.ref 164, .int p0, .int p1, .int p2, .int p3, .int p4] [] s (zKz K)
  refine z_iload_n (i := 2) dX8_isSlope_0 rfl rfl rfl ?_
  refine z_aload_n (i := 0) dX8_isSlope_1 rfl rfl rfl ?_
  refine z_getR (q := 170) f_X8_25 i_164 rfl (r_164_5 hR) (by decide) dX8_isSlope_2 rfl ?_
  refine z_iload_n (i := 1) dX8_isSlope_5 rfl rfl rfl ?_
  obtain ⟨a1, h⟩ := h
  have wa1 := vin a1
  refine z_iald (x := s.1 170 p0.toNatClampNeg) rfl a_170 a1 dX8_isSlope_6 rfl ?_
  refine z_isub dX8_isSlope_7 rfl ?_
  refine z_iload_n (i := 3) dX8_isSlope_8 rfl rfl rfl ?_
  refine z_aload_n (i := 0) dX8_isSlope_9 rfl rfl rfl ?_
  refine z_getR (q := 171) f_X8_28 i_164 rfl (r_164_6 hR) (by decide) dX8_isSlope_10 rfl ?_
  refine z_iload_n (i := 1) dX8_isSlope_13 rfl rfl rfl ?_
  obtain ⟨a2, h⟩ := h
  have wa2 := vin a2
  refine z_iald (x := s.1 171 p0.toNatClampNeg) rfl a_171 a2 dX8_isSlope_14 rfl ?_
  refine z_isub dX8_isSlope_15 rfl ?_
  refine z_iload dX8_isSlope_16 rfl rfl ?_
  refine z_aload_n (i := 0) dX8_isSlope_18 rfl rfl rfl ?_
  refine z_iload_n (i := 1) dX8_isSlope_19 rfl rfl rfl ?_
  refine z_callV k_X8_eye m_X8_233 (zRec_of i_164) rfl h rfl (Nat.le_of_ble_eq_true rfl) dX8_isSlope_20 zy200 rfl ?_
  rintro v s3 ⟨r4, rfl, hRs3, h⟩
  show zt l g (d + 1) M_X8_isSlope 23 [.ref 164, .int p0, .int p1, .int p2, .int p3, .int p4] [.int r4, .int p3, .int (p2 - (s.1 171 p0.toNatClampNeg)), .int (p1 - (s.1 170 p0.toNatClampNeg))] s3 _
  refine z_isub dX8_isSlope_23 rfl ?_
  refine z_callS (as := [.int (p1 - (s.1 170 p0.toNatClampNeg)), .int (p2 - (s.1 171 p0.toNatClampNeg)), .int (p3 - r4)]) k_X8_slopeOf m_X8_248 rfl h rfl (Nat.le_of_ble_eq_true rfl) dX8_isSlope_24 zy200 rfl ?_
  rintro v s5 ⟨r6, rfl, hRs5, h⟩
  show zt l g (d + 1) M_X8_isSlope 27 [.ref 164, .int p0, .int p1, .int p2, .int p3, .int p4] [.int r6] s5 _
  refine z_iload dX8_isSlope_27 rfl rfl ?_
  refine z_isub dX8_isSlope_29 rfl ?_
  refine z_mabs m_X8_229 dX8_isSlope_30 (Nat.le_of_ble_eq_true rfl) rfl ?_
  refine z_aload_n (i := 0) dX8_isSlope_33 rfl rfl rfl ?_
  refine z_getI (x := s5.1 164 26) rfl f_X8_70 i_164 rfl dX8_isSlope_34 rfl ?_
  refine z_icmp_gt (pt := 44) dX8_isSlope_37 (by decide) rfl (fun c => ?_) (fun c => ?_)
  · have h := zit h c
    refine z_iconst (v := (0 : Int32)) dX8_isSlope_44 (by decide) rfl ?_
    exact z_ret (some (.int (zb false))) (Or.inr (Or.inl ⟨_, _, rfl, rfl, zb_nar _, dX8_isSlope_45⟩)) zN200 ⟨_, rfl, h⟩
  · have h := zif h c
    refine z_iconst (v := (1 : Int32)) dX8_isSlope_40 (by decide) rfl ?_
    refine z_goto (pn := 45) dX8_isSlope_41 (by decide) ?_
    exact z_ret (some (.int (zb true))) (Or.inr (Or.inl ⟨_, _, rfl, rfl, zb_nar _, dX8_isSlope_45⟩)) zN200 ⟨_, rfl, h⟩
theorem dX8_hasHeight_0 : decode cX8_hasHeight 0 = .ok (.iconst 0, 1) := by decide +kernel
theorem dX8_hasHeight_1 : decode cX8_hasHeight 1 = .ok (.istore 5, 2) := by decide +kernel
theorem dX8_hasHeight_3 : decode cX8_hasHeight 3 = .ok (.iload 5, 2) := by decide +kernel
theorem dX8_hasHeight_5 : decode cX8_hasHeight 5 = .ok (.sipush 256, 3) := by decide +kernel
theorem dX8_hasHeight_8 : decode cX8_hasHeight 8 = .ok (.if_icmp .ge 47, 3) := by decide +kernel
theorem dX8_hasHeight_11 : decode cX8_hasHeight 11 = .ok (.aload_n 0, 1) := by decide +kernel
theorem dX8_hasHeight_12 : decode cX8_hasHeight 12 = .ok (.aload_n 1, 1) := by decide +kernel
theorem dX8_hasHeight_13 : decode cX8_hasHeight 13 = .ok (.iconst 0, 1) := by decide +kernel
theorem dX8_hasHeight_14 : decode cX8_hasHeight 14 = .ok (.iaload, 1) := by decide +kernel
theorem dX8_hasHeight_15 : decode cX8_hasHeight 15 = .ok (.iload_n 3, 1) := by decide +kernel
theorem dX8_hasHeight_16 : decode cX8_hasHeight 16 = .ok (.iload 4, 2) := by decide +kernel
theorem dX8_hasHeight_18 : decode cX8_hasHeight 18 = .ok (.iload 5, 2) := by decide +kernel
theorem dX8_hasHeight_20 : decode cX8_hasHeight 20 = .ok (.aload_n 1, 1) := by decide +kernel
theorem dX8_hasHeight_21 : decode cX8_hasHeight 21 = .ok (.iconst 4, 1) := by decide +kernel
theorem dX8_hasHeight_22 : decode cX8_hasHeight 22 = .ok (.iaload, 1) := by decide +kernel
theorem dX8_hasHeight_23 : decode cX8_hasHeight 23 = .ok (.invokevirtual 297, 3) := by decide +kernel
theorem dX8_hasHeight_26 : decode cX8_hasHeight 26 = .ok (.ifCond .eq 23, 3) := by decide +kernel
theorem dX8_hasHeight_29 : decode cX8_hasHeight 29 = .ok (.aload_n 0, 1) := by decide +kernel
theorem dX8_hasHeight_30 : decode cX8_hasHeight 30 = .ok (.aload_n 2, 1) := by decide +kernel
theorem dX8_hasHeight_31 : decode cX8_hasHeight 31 = .ok (.iconst 0, 1) := by decide +kernel
theorem dX8_hasHeight_32 : decode cX8_hasHeight 32 = .ok (.iaload, 1) := by decide +kernel
theorem dX8_hasHeight_33 : decode cX8_hasHeight 33 = .ok (.iload_n 3, 1) := by decide +kernel
theorem dX8_hasHeight_34 : decode cX8_hasHeight 34 = .ok (.iload 4, 2) := by decide +kernel
theorem dX8_hasHeight_36 : decode cX8_hasHeight 36 = .ok (.iload 5, 2) := by decide +kernel
theorem dX8_hasHeight_38 : decode cX8_hasHeight 38 = .ok (.aload_n 2, 1) := by decide +kernel
theorem dX8_hasHeight_39 : decode cX8_hasHeight 39 = .ok (.iconst 4, 1) := by decide +kernel
theorem dX8_hasHeight_40 : decode cX8_hasHeight 40 = .ok (.iaload, 1) := by decide +kernel
theorem dX8_hasHeight_41 : decode cX8_hasHeight 41 = .ok (.invokevirtual 297, 3) := by decide +kernel
theorem dX8_hasHeight_44 : decode cX8_hasHeight 44 = .ok (.ifCond .eq 5, 3) := by decide +kernel
theorem dX8_hasHeight_47 : decode cX8_hasHeight 47 = .ok (.iconst 1, 1) := by decide +kernel
theorem dX8_hasHeight_48 : decode cX8_hasHeight 48 = .ok (.ireturn, 1) := by decide +kernel
theorem dX8_hasHeight_49 : decode cX8_hasHeight 49 = .ok (.iinc 5 1, 3) := by decide +kernel
theorem dX8_hasHeight_52 : decode cX8_hasHeight 52 = .ok (.goto (-49), 3) := by decide +kernel
theorem dX8_hasHeight_55 : decode cX8_hasHeight 55 = .ok (.iconst 0, 1) := by decide +kernel
theorem dX8_hasHeight_56 : decode cX8_hasHeight 56 = .ok (.ireturn, 1) := by decide +kernel
set_option maxHeartbeats 4000000 in
set_option maxRecDepth 100000 in
theorem t_X8_hasHeight {l : Launch} {g : zG} {d : Nat} {s : zS} (hR : zRok s) {p0 : Nat} (hp0 : 183 ≤ p0 ∧ p0 < 243) {p1 : Nat} (hp1 : 183 ≤ p1 ∧ p1 < 243) {p2 : Int32} {p3 : Int32} {K : Bool → zS → Prop} (h : zt l g (d + 1) M_X8_hasHeight 3 [.ref 164, .ref p0, .ref p1, .int p2, .int p3, .int (0 : Int32)] [] s (zKz K)) : zc l g (d + 1) M_X8_hasHeight [.ref 164, .ref p0, .ref p1, .int p2, .int p3] s (zKz K) := by
  refine zCall_of k_X8_hasHeight (Nat.le_of_ble_eq_true rfl) (Nat.le_refl _) (fun _ => ?_)
  show zt l g (d + 1) M_X8_hasHeight 0 [.ref 164, .ref p0, .ref p1, .int p2, .int p3, zJ] [] s (zKz K)
  refine z_iconst (v := (0 : Int32)) dX8_hasHeight_0 (by decide) rfl ?_
  refine z_istore dX8_hasHeight_1 (by decide) (zokd rfl) rfl ?_
  show zt l g (d + 1) M_X8_hasHeight 3 [.ref 164, .ref p0, .ref p1, .int p2, .int p3, .int (0 : Int32)] [] s _
  exact h
set_option maxHeartbeats 4000000 in
set_option maxRecDepth 100000 in
theorem t_X8_hasHeight_3 {l : Launch} {g : zG} {d : Nat} {s : zS} (hR : zRok s) {x1 : Nat} (hx1 : 183 ≤ x1 ∧ x1 < 243) {x2 : Nat} (hx2 : 183 ≤ x2 ∧ x2 < 243) {x3 : Int32} {x4 : Int32} {x5 : Int32} {K : Bool → zS → Prop} (h : (if (256 : Int32) ≤ x5 then K false s else (zc l g d M_X8_isSlope [.ref 164, .int (s.1 x1 0), .int x3, .int x4, .int x5, .int (s.1 x1 4)] s (zKz (fun b2 s1 => s1.2.2.1 = s.2.2.1 ∧ (if b2 = true then (zc l g d M_X8_isSlope [.ref 164, .int (s1.1 x2 0), .int x3, .int x4, .int x5, .int (s1.1 x2 4)] s1 (zKz (fun b4 s3 => s3.2.2.1 = s1.2.2.1 ∧ (if b4 = true then K true s3 else zt l g (d + 1) M_X8_hasHeight 3 [.ref 164, .ref x1, .ref x2, .int x3, .int x4, .int (x5 + (1 : Int32))] [] s3 (zKz K))))) else zt l g (d + 1) M_X8_hasHeight 3 [.ref 164, .ref x1, .ref x2, .int x3, .int x4, .int (x5 + (1 : Int32))] [] s1 (zKz K))))))) : zt l g (d + 1) M_X8_hasHeight 3 [.ref 164, .ref x1, .ref x2, .int x3, .int x4, .int x5] [] s (zKz K) := by
  refine z_iload dX8_hasHeight_3 rfl rfl ?_
  refine z_sipush (v := (256 : Int32)) dX8_hasHeight_5 (by decide) rfl ?_
  refine z_icmp_ge (pt := 55) dX8_hasHeight_8 (by decide) rfl (fun c => ?_) (fun c => ?_)
  · have h := zit h c
    refine z_iconst (v := (0 : Int32)) dX8_hasHeight_55 (by decide) rfl ?_
    exact z_ret (some (.int (zb false))) (Or.inr (Or.inl ⟨_, _, rfl, rfl, zb_nar _, dX8_hasHeight_56⟩)) zN200 ⟨_, rfl, h⟩
  · have h := zif h c
    refine z_aload_n (i := 0) dX8_hasHeight_11 rfl rfl rfl ?_
    refine z_aload_n (i := 1) dX8_hasHeight_12 rfl rfl rfl ?_
    refine z_iconst (v := (0 : Int32)) dX8_hasHeight_13 (by decide) rfl ?_
    refine z_iald (x := s.1 x1 0) rfl (a_row hx1) (by unfold vp_in; decide) dX8_hasHeight_14 rfl ?_
    refine z_iload_n (i := 3) dX8_hasHeight_15 rfl rfl rfl ?_
    refine z_iload dX8_hasHeight_16 rfl rfl ?_
    refine z_iload dX8_hasHeight_18 rfl rfl ?_
    refine z_aload_n (i := 1) dX8_hasHeight_20 rfl rfl rfl ?_
    refine z_iconst (v := (4 : Int32)) dX8_hasHeight_21 (by decide) rfl ?_
    refine z_iald (x := s.1 x1 4) rfl (a_row hx1) (by unfold vp_in; decide) dX8_hasHeight_22 rfl ?_
    refine z_callV k_X8_isSlope m_X8_297 (zRec_of i_164) rfl h rfl (Nat.le_of_ble_eq_true rfl) dX8_hasHeight_23 zy200 rfl ?_
    rintro v s1 ⟨b2, rfl, hRs1, h⟩
    show zt l g (d + 1) M_X8_hasHeight 26 [.ref 164, .ref x1, .ref x2, .int x3, .int x4, .int x5] [.int (zb b2)] s1 _
    refine z_ifb_eq (pt := 49) dX8_hasHeight_26 (by decide) rfl (fun c => ?_) (fun c => ?_)
    · have h := zif h (by rw [c]; exact Bool.false_ne_true)
      refine z_iinc (v := x5 + (1 : Int32)) dX8_hasHeight_49 rfl rfl (by decide) (zokd rfl) rfl ?_
      show zt l g (d + 1) M_X8_hasHeight 52 [.ref 164, .ref x1, .ref x2, .int x3, .int x4, .int (x5 + (1 : Int32))] [] s1 _
      refine z_goto (pn := 3) dX8_hasHeight_52 (by decide) ?_
      exact h
    · have h := zit h c
      refine z_aload_n (i := 0) dX8_hasHeight_29 rfl rfl rfl ?_
      refine z_aload_n (i := 2) dX8_hasHeight_30 rfl rfl rfl ?_
      refine z_iconst (v := (0 : Int32)) dX8_hasHeight_31 (by decide) rfl ?_
      refine z_iald (x := s1.1 x2 0) rfl (a_row hx2) (by unfold vp_in; decide) dX8_hasHeight_32 rfl ?_
      refine z_iload_n (i := 3) dX8_hasHeight_33 rfl rfl rfl ?_
      refine z_iload dX8_hasHeight_34 rfl rfl ?_
      refine z_iload dX8_hasHeight_36 rfl rfl ?_
      refine z_aload_n (i := 2) dX8_hasHeight_38 rfl rfl rfl ?_
      refine z_iconst (v := (4 : Int32)) dX8_hasHeight_39 (by decide) rfl ?_
      refine z_iald (x := s1.1 x2 4) rfl (a_row hx2) (by unfold vp_in; decide) dX8_hasHeight_40 rfl ?_
      refine z_callV k_X8_isSlope m_X8_297 (zRec_of i_164) rfl h rfl (Nat.le_of_ble_eq_true rfl) dX8_hasHeight_41 zy200 rfl ?_
      rintro v s3 ⟨b4, rfl, hRs3, h⟩
      show zt l g (d + 1) M_X8_hasHeight 44 [.ref 164, .ref x1, .ref x2, .int x3, .int x4, .int x5] [.int (zb b4)] s3 _
      refine z_ifb_eq (pt := 49) dX8_hasHeight_44 (by decide) rfl (fun c => ?_) (fun c => ?_)
      · have h := zif h (by rw [c]; exact Bool.false_ne_true)
        refine z_iinc (v := x5 + (1 : Int32)) dX8_hasHeight_49 rfl rfl (by decide) (zokd rfl) rfl ?_
        show zt l g (d + 1) M_X8_hasHeight 52 [.ref 164, .ref x1, .ref x2, .int x3, .int x4, .int (x5 + (1 : Int32))] [] s3 _
        refine z_goto (pn := 3) dX8_hasHeight_52 (by decide) ?_
        exact h
      · have h := zit h c
        refine z_iconst (v := (1 : Int32)) dX8_hasHeight_47 (by decide) rfl ?_
        exact z_ret (some (.int (zb true))) (Or.inr (Or.inl ⟨_, _, rfl, rfl, zb_nar _, dX8_hasHeight_48⟩)) zN200 ⟨_, rfl, h⟩
theorem dX8_isCrossed_0 : decode cX8_isCrossed 0 = .ok (.iload_n 2, 1) := by decide +kernel
theorem dX8_isCrossed_1 : decode cX8_isCrossed 1 = .ok (.aload_n 0, 1) := by decide +kernel
theorem dX8_isCrossed_2 : decode cX8_isCrossed 2 = .ok (.getfield 25, 3) := by decide +kernel
theorem dX8_isCrossed_5 : decode cX8_isCrossed 5 = .ok (.aload_n 1, 1) := by decide +kernel
theorem dX8_isCrossed_6 : decode cX8_isCrossed 6 = .ok (.iconst 0, 1) := by decide +kernel
theorem dX8_isCrossed_7 : decode cX8_isCrossed 7 = .ok (.iaload, 1) := by decide +kernel
theorem dX8_isCrossed_8 : decode cX8_isCrossed 8 = .ok (.iaload, 1) := by decide +kernel
theorem dX8_isCrossed_9 : decode cX8_isCrossed 9 = .ok (.if_icmp .ne 15, 3) := by decide +kernel
theorem dX8_isCrossed_12 : decode cX8_isCrossed 12 = .ok (.iload_n 3, 1) := by decide +kernel
theorem dX8_isCrossed_13 : decode cX8_isCrossed 13 = .ok (.aload_n 0, 1) := by decide +kernel
theorem dX8_isCrossed_14 : decode cX8_isCrossed 14 = .ok (.getfield 28, 3) := by decide +kernel
theorem dX8_isCrossed_17 : decode cX8_isCrossed 17 = .ok (.aload_n 1, 1) := by decide +kernel
theorem dX8_isCrossed_18 : decode cX8_isCrossed 18 = .ok (.iconst 0, 1) := by decide +kernel
theorem dX8_isCrossed_19 : decode cX8_isCrossed 19 = .ok (.iaload, 1) := by decide +kernel
theorem dX8_isCrossed_20 : decode cX8_isCrossed 20 = .ok (.iaload, 1) := by decide +kernel
theorem dX8_isCrossed_21 : decode cX8_isCrossed 21 = .ok (.if_icmp .eq 43, 3) := by decide +kernel
theorem dX8_isCrossed_24 : decode cX8_isCrossed 24 = .ok (.iload_n 2, 1) := by decide +kernel
theorem dX8_isCrossed_25 : decode cX8_isCrossed 25 = .ok (.aload_n 0, 1) := by decide +kernel
theorem dX8_isCrossed_26 : decode cX8_isCrossed 26 = .ok (.getfield 25, 3) := by decide +kernel
theorem dX8_isCrossed_29 : decode cX8_isCrossed 29 = .ok (.aload_n 1, 1) := by decide +kernel
theorem dX8_isCrossed_30 : decode cX8_isCrossed 30 = .ok (.iconst 0, 1) := by decide +kernel
theorem dX8_isCrossed_31 : decode cX8_isCrossed 31 = .ok (.iaload, 1) := by decide +kernel
theorem dX8_isCrossed_32 : decode cX8_isCrossed 32 = .ok (.iaload, 1) := by decide +kernel
theorem dX8_isCrossed_33 : decode cX8_isCrossed 33 = .ok (.isub, 1) := by decide +kernel
theorem dX8_isCrossed_34 : decode cX8_isCrossed 34 = .ok (.iload_n 3, 1) := by decide +kernel
theorem dX8_isCrossed_35 : decode cX8_isCrossed 35 = .ok (.aload_n 0, 1) := by decide +kernel
theorem dX8_isCrossed_36 : decode cX8_isCrossed 36 = .ok (.getfield 28, 3) := by decide +kernel
theorem dX8_isCrossed_39 : decode cX8_isCrossed 39 = .ok (.aload_n 1, 1) := by decide +kernel
theorem dX8_isCrossed_40 : decode cX8_isCrossed 40 = .ok (.iconst 0, 1) := by decide +kernel
theorem dX8_isCrossed_41 : decode cX8_isCrossed 41 = .ok (.iaload, 1) := by decide +kernel
theorem dX8_isCrossed_42 : decode cX8_isCrossed 42 = .ok (.iaload, 1) := by decide +kernel
theorem dX8_isCrossed_43 : decode cX8_isCrossed 43 = .ok (.isub, 1) := by decide +kernel
theorem dX8_isCrossed_44 : decode cX8_isCrossed 44 = .ok (.invokestatic 245, 3) := by decide +kernel
theorem dX8_isCrossed_47 : decode cX8_isCrossed 47 = .ok (.aload_n 1, 1) := by decide +kernel
theorem dX8_isCrossed_48 : decode cX8_isCrossed 48 = .ok (.iconst 3, 1) := by decide +kernel
theorem dX8_isCrossed_49 : decode cX8_isCrossed 49 = .ok (.iaload, 1) := by decide +kernel
theorem dX8_isCrossed_50 : decode cX8_isCrossed 50 = .ok (.invokestatic 282, 3) := by decide +kernel
theorem dX8_isCrossed_53 : decode cX8_isCrossed 53 = .ok (.aload_n 0, 1) := by decide +kernel
theorem dX8_isCrossed_54 : decode cX8_isCrossed 54 = .ok (.getfield 66, 3) := by decide +kernel
theorem dX8_isCrossed_57 : decode cX8_isCrossed 57 = .ok (.if_icmp .gt 7, 3) := by decide +kernel
theorem dX8_isCrossed_60 : decode cX8_isCrossed 60 = .ok (.iconst 1, 1) := by decide +kernel
theorem dX8_isCrossed_61 : decode cX8_isCrossed 61 = .ok (.goto 4, 3) := by decide +kernel
theorem dX8_isCrossed_64 : decode cX8_isCrossed 64 = .ok (.iconst 0, 1) := by decide +kernel
theorem dX8_isCrossed_65 : decode cX8_isCrossed 65 = .ok (.ireturn, 1) := by decide +kernel
set_option maxHeartbeats 4000000 in
set_option maxRecDepth 100000 in
theorem t_X8_isCrossed {l : Launch} {g : zG} {d : Nat} {s : zS} (hR : zRok s) {p0 : Nat} (hp0 : 183 ≤ p0 ∧ p0 < 243) {p1 : Int32} {p2 : Int32} {K : Bool → zS → Prop} (h : (vp_in (s.1 p0 0) 20 ∧ (if p1 = (s.1 170 ((s.1 p0 0).toNatClampNeg)) then (vp_in (s.1 p0 0) 20 ∧ (if p2 = (s.1 171 ((s.1 p0 0).toNatClampNeg)) then K false s else (vp_in (s.1 p0 0) 20 ∧ (vp_in (s.1 p0 0) 20 ∧ (zc l g d M_X8_wayOf [.int (p1 - (s.1 170 ((s.1 p0 0).toNatClampNeg))), .int (p2 - (s.1 171 ((s.1 p0 0).toNatClampNeg)))] s (zKi (fun r12 s11 => s11.2.2.1 = s.2.2.1 ∧ (zc l g d M_X8_apart [.int r12, .int (s11.1 p0 3)] s11 (zKi (fun r14 s13 => s13.2.2.1 = s11.2.2.1 ∧ (if (s13.1 164 25) < r14 then K false s13 else K true s13))))))))))) else (vp_in (s.1 p0 0) 20 ∧ (vp_in (s.1 p0 0) 20 ∧ (zc l g d M_X8_wayOf [.int (p1 - (s.1 170 ((s.1 p0 0).toNatClampNeg))), .int (p2 - (s.1 171 ((s.1 p0 0).toNatClampNeg)))] s (zKi (fun r5 s4 => s4.2.2.1 = s.2.2.1 ∧ (zc l g d M_X8_apart [.int r5, .int (s4.1 p0 3)] s4 (zKi (fun r7 s6 => s6.2.2.1 = s4.2.2.1 ∧ (if (s6.1 164 25) < r7 then K false s6 else K true s6)))))))))))) : zc l g (d + 1) M_X8_isCrossed [.ref 164, .ref p0, .int p1, .int p2] s (zKz K) := by
  refine zCall_of k_X8_isCrossed (Nat.le_of_ble_eq_true rfl) (Nat.le_refl _) (fun _ => ?_)
  show zt l g (d + 1) M_X8_isCrossed 0 [.ref 164, .ref p0, .int p1, .int p2] [] s (zKz K)
  refine z_iload_n (i := 2) dX8_isCrossed_0 rfl rfl rfl ?_
  refine z_aload_n (i := 0) dX8_isCrossed_1 rfl rfl rfl ?_
  refine z_getR (q := 170) f_X8_25 i_164 rfl (r_164_5 hR) (by decide) dX8_isCrossed_2 rfl ?_
  refine z_aload_n (i := 1) dX8_isCrossed_5 rfl rfl rfl ?_
  refine z_iconst (v := (0 : Int32)) dX8_isCrossed_6 (by decide) rfl ?_
  refine z_iald (x := s.1 p0 0) rfl (a_row hp0) (by unfold vp_in; decide) dX8_isCrossed_7 rfl ?_
  obtain ⟨a1, h⟩ := h
  have wa1 := vin a1
  refine z_iald (x := s.1 170 ((s.1 p0 0).toNatClampNeg)) rfl a_170 a1 dX8_isCrossed_8 rfl ?_
  refine z_icmp_ne (pt := 24) dX8_isCrossed_9 (by decide) rfl (fun c => ?_) (fun c => ?_)
  · have h := zif h c
    refine z_iload_n (i := 2) dX8_isCrossed_24 rfl rfl rfl ?_
    refine z_aload_n (i := 0) dX8_isCrossed_25 rfl rfl rfl ?_
    refine z_getR (q := 170) f_X8_25 i_164 rfl (r_164_5 hR) (by decide) dX8_isCrossed_26 rfl ?_
    refine z_aload_n (i := 1) dX8_isCrossed_29 rfl rfl rfl ?_
    refine z_iconst (v := (0 : Int32)) dX8_isCrossed_30 (by decide) rfl ?_
    refine z_iald (x := s.1 p0 0) rfl (a_row hp0) (by unfold vp_in; decide) dX8_isCrossed_31 rfl ?_
    obtain ⟨a2, h⟩ := h
    have wa2 := vin a2
    refine z_iald (x := s.1 170 ((s.1 p0 0).toNatClampNeg)) rfl a_170 a2 dX8_isCrossed_32 rfl ?_
    refine z_isub dX8_isCrossed_33 rfl ?_
    refine z_iload_n (i := 3) dX8_isCrossed_34 rfl rfl rfl ?_
    refine z_aload_n (i := 0) dX8_isCrossed_35 rfl rfl rfl ?_
    refine z_getR (q := 171) f_X8_28 i_164 rfl (r_164_6 hR) (by decide) dX8_isCrossed_36 rfl ?_
    refine z_aload_n (i := 1) dX8_isCrossed_39 rfl rfl rfl ?_
    refine z_iconst (v := (0 : Int32)) dX8_isCrossed_40 (by decide) rfl ?_
    refine z_iald (x := s.1 p0 0) rfl (a_row hp0) (by unfold vp_in; decide) dX8_isCrossed_41 rfl ?_
    obtain ⟨a3, h⟩ := h
    have wa3 := vin a3
    refine z_iald (x := s.1 171 ((s.1 p0 0).toNatClampNeg)) rfl a_171 a3 dX8_isCrossed_42 rfl ?_
    refine z_isub dX8_isCrossed_43 rfl ?_
    refine z_callS (as := [.int (p1 - (s.1 170 ((s.1 p0 0).toNatClampNeg))), .int (p2 - (s.1 171 ((s.1 p0 0).toNatClampNeg)))]) k_X8_wayOf m_X8_245 rfl h rfl (Nat.le_of_ble_eq_true rfl) dX8_isCrossed_44 zy200 rfl ?_
    rintro v s4 ⟨r5, rfl, hRs4, h⟩
    show zt l g (d + 1) M_X8_isCrossed 47 [.ref 164, .ref p0, .int p1, .int p2] [.int r5] s4 _
    refine z_aload_n (i := 1) dX8_isCrossed_47 rfl rfl rfl ?_
    refine z_iconst (v := (3 : Int32)) dX8_isCrossed_48 (by decide) rfl ?_
    refine z_iald (x := s4.1 p0 3) rfl (a_row hp0) (by unfold vp_in; decide) dX8_isCrossed_49 rfl ?_
    refine z_callS (as := [.int r5, .int (s4.1 p0 3)]) k_X8_apart m_X8_282 rfl h rfl (Nat.le_of_ble_eq_true rfl) dX8_isCrossed_50 zy200 rfl ?_
    rintro v s6 ⟨r7, rfl, hRs6, h⟩
    show zt l g (d + 1) M_X8_isCrossed 53 [.ref 164, .ref p0, .int p1, .int p2] [.int r7] s6 _
    refine z_aload_n (i := 0) dX8_isCrossed_53 rfl rfl rfl ?_
    refine z_getI (x := s6.1 164 25) rfl f_X8_66 i_164 rfl dX8_isCrossed_54 rfl ?_
    refine z_icmp_gt (pt := 64) dX8_isCrossed_57 (by decide) rfl (fun c => ?_) (fun c => ?_)
    · have h := zit h c
      refine z_iconst (v := (0 : Int32)) dX8_isCrossed_64 (by decide) rfl ?_
      exact z_ret (some (.int (zb false))) (Or.inr (Or.inl ⟨_, _, rfl, rfl, zb_nar _, dX8_isCrossed_65⟩)) zN200 ⟨_, rfl, h⟩
    · have h := zif h c
      refine z_iconst (v := (1 : Int32)) dX8_isCrossed_60 (by decide) rfl ?_
      refine z_goto (pn := 65) dX8_isCrossed_61 (by decide) ?_
      exact z_ret (some (.int (zb true))) (Or.inr (Or.inl ⟨_, _, rfl, rfl, zb_nar _, dX8_isCrossed_65⟩)) zN200 ⟨_, rfl, h⟩
  · have h := zit h c
    refine z_iload_n (i := 3) dX8_isCrossed_12 rfl rfl rfl ?_
    refine z_aload_n (i := 0) dX8_isCrossed_13 rfl rfl rfl ?_
    refine z_getR (q := 171) f_X8_28 i_164 rfl (r_164_6 hR) (by decide) dX8_isCrossed_14 rfl ?_
    refine z_aload_n (i := 1) dX8_isCrossed_17 rfl rfl rfl ?_
    refine z_iconst (v := (0 : Int32)) dX8_isCrossed_18 (by decide) rfl ?_
    refine z_iald (x := s.1 p0 0) rfl (a_row hp0) (by unfold vp_in; decide) dX8_isCrossed_19 rfl ?_
    obtain ⟨a8, h⟩ := h
    have wa8 := vin a8
    refine z_iald (x := s.1 171 ((s.1 p0 0).toNatClampNeg)) rfl a_171 a8 dX8_isCrossed_20 rfl ?_
    refine z_icmp_eq (pt := 64) dX8_isCrossed_21 (by decide) rfl (fun c => ?_) (fun c => ?_)
    · have h := zit h c
      refine z_iconst (v := (0 : Int32)) dX8_isCrossed_64 (by decide) rfl ?_
      exact z_ret (some (.int (zb false))) (Or.inr (Or.inl ⟨_, _, rfl, rfl, zb_nar _, dX8_isCrossed_65⟩)) zN200 ⟨_, rfl, h⟩
    · have h := zif h c
      refine z_iload_n (i := 2) dX8_isCrossed_24 rfl rfl rfl ?_
      refine z_aload_n (i := 0) dX8_isCrossed_25 rfl rfl rfl ?_
      refine z_getR (q := 170) f_X8_25 i_164 rfl (r_164_5 hR) (by decide) dX8_isCrossed_26 rfl ?_
      refine z_aload_n (i := 1) dX8_isCrossed_29 rfl rfl rfl ?_
      refine z_iconst (v := (0 : Int32)) dX8_isCrossed_30 (by decide) rfl ?_
      refine z_iald (x := s.1 p0 0) rfl (a_row hp0) (by unfold vp_in; decide) dX8_isCrossed_31 rfl ?_
      obtain ⟨a9, h⟩ := h
      have wa9 := vin a9
      refine z_iald (x := s.1 170 ((s.1 p0 0).toNatClampNeg)) rfl a_170 a9 dX8_isCrossed_32 rfl ?_
      refine z_isub dX8_isCrossed_33 rfl ?_
      refine z_iload_n (i := 3) dX8_isCrossed_34 rfl rfl rfl ?_
      refine z_aload_n (i := 0) dX8_isCrossed_35 rfl rfl rfl ?_
      refine z_getR (q := 171) f_X8_28 i_164 rfl (r_164_6 hR) (by decide) dX8_isCrossed_36 rfl ?_
      refine z_aload_n (i := 1) dX8_isCrossed_39 rfl rfl rfl ?_
      refine z_iconst (v := (0 : Int32)) dX8_isCrossed_40 (by decide) rfl ?_
      refine z_iald (x := s.1 p0 0) rfl (a_row hp0) (by unfold vp_in; decide) dX8_isCrossed_41 rfl ?_
      obtain ⟨a10, h⟩ := h
      have wa10 := vin a10
      refine z_iald (x := s.1 171 ((s.1 p0 0).toNatClampNeg)) rfl a_171 a10 dX8_isCrossed_42 rfl ?_
      refine z_isub dX8_isCrossed_43 rfl ?_
      refine z_callS (as := [.int (p1 - (s.1 170 ((s.1 p0 0).toNatClampNeg))), .int (p2 - (s.1 171 ((s.1 p0 0).toNatClampNeg)))]) k_X8_wayOf m_X8_245 rfl h rfl (Nat.le_of_ble_eq_true rfl) dX8_isCrossed_44 zy200 rfl ?_
      rintro v s11 ⟨r12, rfl, hRs11, h⟩
      show zt l g (d + 1) M_X8_isCrossed 47 [.ref 164, .ref p0, .int p1, .int p2] [.int r12] s11 _
      refine z_aload_n (i := 1) dX8_isCrossed_47 rfl rfl rfl ?_
      refine z_iconst (v := (3 : Int32)) dX8_isCrossed_48 (by decide) rfl ?_
      refine z_iald (x := s11.1 p0 3) rfl (a_row hp0) (by unfold vp_in; decide) dX8_isCrossed_49 rfl ?_
      refine z_callS (as := [.int r12, .int (s11.1 p0 3)]) k_X8_apart m_X8_282 rfl h rfl (Nat.le_of_ble_eq_true rfl) dX8_isCrossed_50 zy200 rfl ?_
      rintro v s13 ⟨r14, rfl, hRs13, h⟩
      show zt l g (d + 1) M_X8_isCrossed 53 [.ref 164, .ref p0, .int p1, .int p2] [.int r14] s13 _
      refine z_aload_n (i := 0) dX8_isCrossed_53 rfl rfl rfl ?_
      refine z_getI (x := s13.1 164 25) rfl f_X8_66 i_164 rfl dX8_isCrossed_54 rfl ?_
      refine z_icmp_gt (pt := 64) dX8_isCrossed_57 (by decide) rfl (fun c => ?_) (fun c => ?_)
      · have h := zit h c
        refine z_iconst (v := (0 : Int32)) dX8_isCrossed_64 (by decide) rfl ?_
        exact z_ret (some (.int (zb false))) (Or.inr (Or.inl ⟨_, _, rfl, rfl, zb_nar _, dX8_isCrossed_65⟩)) zN200 ⟨_, rfl, h⟩
      · have h := zif h c
        refine z_iconst (v := (1 : Int32)) dX8_isCrossed_60 (by decide) rfl ?_
        refine z_goto (pn := 65) dX8_isCrossed_61 (by decide) ?_
        exact z_ret (some (.int (zb true))) (Or.inr (Or.inl ⟨_, _, rfl, rfl, zb_nar _, dX8_isCrossed_65⟩)) zN200 ⟨_, rfl, h⟩
theorem dX8_cross_0 : decode cX8_cross 0 = .ok (.aload_n 0, 1) := by decide +kernel
theorem dX8_cross_1 : decode cX8_cross 1 = .ok (.iload_n 1, 1) := by decide +kernel
theorem dX8_cross_2 : decode cX8_cross 2 = .ok (.invokevirtual 277, 3) := by decide +kernel
theorem dX8_cross_5 : decode cX8_cross 5 = .ok (.ifCond .eq 23, 3) := by decide +kernel
theorem dX8_cross_8 : decode cX8_cross 8 = .ok (.aload_n 0, 1) := by decide +kernel
theorem dX8_cross_9 : decode cX8_cross 9 = .ok (.iload_n 2, 1) := by decide +kernel
theorem dX8_cross_10 : decode cX8_cross 10 = .ok (.invokevirtual 277, 3) := by decide +kernel
theorem dX8_cross_13 : decode cX8_cross 13 = .ok (.ifCond .eq 15, 3) := by decide +kernel
theorem dX8_cross_16 : decode cX8_cross 16 = .ok (.iload_n 3, 1) := by decide +kernel
theorem dX8_cross_17 : decode cX8_cross 17 = .ok (.i2l, 1) := by decide +kernel
theorem dX8_cross_18 : decode cX8_cross 18 = .ok (.lconst 0, 1) := by decide +kernel
theorem dX8_cross_19 : decode cX8_cross 19 = .ok (.ldc2_w 301, 3) := by decide +kernel
theorem dX8_cross_22 : decode cX8_cross 22 = .ok (.invokestatic 147, 3) := by decide +kernel
theorem dX8_cross_25 : decode cX8_cross 25 = .ok (.ifCond .ne 5, 3) := by decide +kernel
theorem dX8_cross_28 : decode cX8_cross 28 = .ok (.iconst (-1), 1) := by decide +kernel
theorem dX8_cross_29 : decode cX8_cross 29 = .ok (.ireturn, 1) := by decide +kernel
theorem dX8_cross_30 : decode cX8_cross 30 = .ok (.aload_n 0, 1) := by decide +kernel
theorem dX8_cross_31 : decode cX8_cross 31 = .ok (.getfield 63, 3) := by decide +kernel
theorem dX8_cross_34 : decode cX8_cross 34 = .ok (.iload_n 1, 1) := by decide +kernel
theorem dX8_cross_35 : decode cX8_cross 35 = .ok (.aaload, 1) := by decide +kernel
theorem dX8_cross_36 : decode cX8_cross 36 = .ok (.astore 4, 2) := by decide +kernel
theorem dX8_cross_38 : decode cX8_cross 38 = .ok (.aload_n 0, 1) := by decide +kernel
theorem dX8_cross_39 : decode cX8_cross 39 = .ok (.getfield 63, 3) := by decide +kernel
theorem dX8_cross_42 : decode cX8_cross 42 = .ok (.iload_n 2, 1) := by decide +kernel
theorem dX8_cross_43 : decode cX8_cross 43 = .ok (.aaload, 1) := by decide +kernel
theorem dX8_cross_44 : decode cX8_cross 44 = .ok (.astore 5, 2) := by decide +kernel
theorem dX8_cross_46 : decode cX8_cross 46 = .ok (.aload 4, 2) := by decide +kernel
theorem dX8_cross_48 : decode cX8_cross 48 = .ok (.iconst 0, 1) := by decide +kernel
theorem dX8_cross_49 : decode cX8_cross 49 = .ok (.iaload, 1) := by decide +kernel
theorem dX8_cross_50 : decode cX8_cross 50 = .ok (.aload 5, 2) := by decide +kernel
theorem dX8_cross_52 : decode cX8_cross 52 = .ok (.iconst 0, 1) := by decide +kernel
theorem dX8_cross_53 : decode cX8_cross 53 = .ok (.iaload, 1) := by decide +kernel
theorem dX8_cross_54 : decode cX8_cross 54 = .ok (.if_icmp .eq 14, 3) := by decide +kernel
theorem dX8_cross_57 : decode cX8_cross 57 = .ok (.aload 4, 2) := by decide +kernel
theorem dX8_cross_59 : decode cX8_cross 59 = .ok (.iconst 1, 1) := by decide +kernel
theorem dX8_cross_60 : decode cX8_cross 60 = .ok (.iaload, 1) := by decide +kernel
theorem dX8_cross_61 : decode cX8_cross 61 = .ok (.aload 5, 2) := by decide +kernel
theorem dX8_cross_63 : decode cX8_cross 63 = .ok (.iconst 1, 1) := by decide +kernel
theorem dX8_cross_64 : decode cX8_cross 64 = .ok (.iaload, 1) := by decide +kernel
theorem dX8_cross_65 : decode cX8_cross 65 = .ok (.if_icmp .eq 5, 3) := by decide +kernel
theorem dX8_cross_68 : decode cX8_cross 68 = .ok (.iconst (-1), 1) := by decide +kernel
theorem dX8_cross_69 : decode cX8_cross 69 = .ok (.ireturn, 1) := by decide +kernel
theorem dX8_cross_70 : decode cX8_cross 70 = .ok (.iconst 0, 1) := by decide +kernel
theorem dX8_cross_71 : decode cX8_cross 71 = .ok (.istore 6, 2) := by decide +kernel
theorem dX8_cross_73 : decode cX8_cross 73 = .ok (.iconst 0, 1) := by decide +kernel
theorem dX8_cross_74 : decode cX8_cross 74 = .ok (.istore 7, 2) := by decide +kernel
theorem dX8_cross_76 : decode cX8_cross 76 = .ok (.bipush 64, 2) := by decide +kernel
theorem dX8_cross_78 : decode cX8_cross 78 = .ok (.istore 8, 2) := by decide +kernel
theorem dX8_cross_80 : decode cX8_cross 80 = .ok (.iconst (-1), 1) := by decide +kernel
theorem dX8_cross_81 : decode cX8_cross 81 = .ok (.istore 9, 2) := by decide +kernel
theorem dX8_cross_83 : decode cX8_cross 83 = .ok (.bipush 64, 2) := by decide +kernel
theorem dX8_cross_85 : decode cX8_cross 85 = .ok (.istore 10, 2) := by decide +kernel
theorem dX8_cross_87 : decode cX8_cross 87 = .ok (.iconst (-1), 1) := by decide +kernel
theorem dX8_cross_88 : decode cX8_cross 88 = .ok (.istore 11, 2) := by decide +kernel
theorem dX8_cross_90 : decode cX8_cross 90 = .ok (.iconst 0, 1) := by decide +kernel
theorem dX8_cross_91 : decode cX8_cross 91 = .ok (.istore 12, 2) := by decide +kernel
theorem dX8_cross_93 : decode cX8_cross 93 = .ok (.iload 12, 2) := by decide +kernel
theorem dX8_cross_95 : decode cX8_cross 95 = .ok (.bipush 64, 2) := by decide +kernel
theorem dX8_cross_97 : decode cX8_cross 97 = .ok (.if_icmp .ge 118, 3) := by decide +kernel
theorem dX8_cross_100 : decode cX8_cross 100 = .ok (.iconst 0, 1) := by decide +kernel
theorem dX8_cross_101 : decode cX8_cross 101 = .ok (.istore 13, 2) := by decide +kernel
theorem dX8_cross_103 : decode cX8_cross 103 = .ok (.iload 13, 2) := by decide +kernel
theorem dX8_cross_105 : decode cX8_cross 105 = .ok (.bipush 64, 2) := by decide +kernel
theorem dX8_cross_107 : decode cX8_cross 107 = .ok (.if_icmp .ge 102, 3) := by decide +kernel
theorem dX8_cross_110 : decode cX8_cross 110 = .ok (.aload_n 0, 1) := by decide +kernel
theorem dX8_cross_111 : decode cX8_cross 111 = .ok (.aload 4, 2) := by decide +kernel
theorem dX8_cross_113 : decode cX8_cross 113 = .ok (.iload 12, 2) := by decide +kernel
theorem dX8_cross_115 : decode cX8_cross 115 = .ok (.iload 13, 2) := by decide +kernel
theorem dX8_cross_117 : decode cX8_cross 117 = .ok (.invokevirtual 303, 3) := by decide +kernel
theorem dX8_cross_120 : decode cX8_cross 120 = .ok (.ifCond .eq 83, 3) := by decide +kernel
theorem dX8_cross_123 : decode cX8_cross 123 = .ok (.aload_n 0, 1) := by decide +kernel
theorem dX8_cross_124 : decode cX8_cross 124 = .ok (.aload 5, 2) := by decide +kernel
theorem dX8_cross_126 : decode cX8_cross 126 = .ok (.iload 12, 2) := by decide +kernel
theorem dX8_cross_128 : decode cX8_cross 128 = .ok (.iload 13, 2) := by decide +kernel
theorem dX8_cross_130 : decode cX8_cross 130 = .ok (.invokevirtual 303, 3) := by decide +kernel
theorem dX8_cross_133 : decode cX8_cross 133 = .ok (.ifCond .ne 6, 3) := by decide +kernel
theorem dX8_cross_136 : decode cX8_cross 136 = .ok (.goto 67, 3) := by decide +kernel
theorem dX8_cross_139 : decode cX8_cross 139 = .ok (.iinc 6 1, 3) := by decide +kernel
theorem dX8_cross_142 : decode cX8_cross 142 = .ok (.iload 7, 2) := by decide +kernel
theorem dX8_cross_144 : decode cX8_cross 144 = .ok (.aload_n 0, 1) := by decide +kernel
theorem dX8_cross_145 : decode cX8_cross 145 = .ok (.aload 4, 2) := by decide +kernel
theorem dX8_cross_147 : decode cX8_cross 147 = .ok (.aload 5, 2) := by decide +kernel
theorem dX8_cross_149 : decode cX8_cross 149 = .ok (.iload 12, 2) := by decide +kernel
theorem dX8_cross_151 : decode cX8_cross 151 = .ok (.iload 13, 2) := by decide +kernel
theorem dX8_cross_153 : decode cX8_cross 153 = .ok (.invokevirtual 307, 3) := by decide +kernel
theorem dX8_cross_156 : decode cX8_cross 156 = .ok (.ifCond .eq 7, 3) := by decide +kernel
theorem dX8_cross_159 : decode cX8_cross 159 = .ok (.iconst 1, 1) := by decide +kernel
theorem dX8_cross_160 : decode cX8_cross 160 = .ok (.goto 4, 3) := by decide +kernel
theorem dX8_cross_163 : decode cX8_cross 163 = .ok (.iconst 0, 1) := by decide +kernel
theorem dX8_cross_164 : decode cX8_cross 164 = .ok (.iadd, 1) := by decide +kernel
theorem dX8_cross_165 : decode cX8_cross 165 = .ok (.istore 7, 2) := by decide +kernel
theorem dX8_cross_167 : decode cX8_cross 167 = .ok (.iload 8, 2) := by decide +kernel
theorem dX8_cross_169 : decode cX8_cross 169 = .ok (.iload 12, 2) := by decide +kernel
theorem dX8_cross_171 : decode cX8_cross 171 = .ok (.invokestatic 165, 3) := by decide +kernel
theorem dX8_cross_174 : decode cX8_cross 174 = .ok (.istore 8, 2) := by decide +kernel
theorem dX8_cross_176 : decode cX8_cross 176 = .ok (.iload 9, 2) := by decide +kernel
theorem dX8_cross_178 : decode cX8_cross 178 = .ok (.iload 12, 2) := by decide +kernel
theorem dX8_cross_180 : decode cX8_cross 180 = .ok (.invokestatic 171, 3) := by decide +kernel
theorem dX8_cross_183 : decode cX8_cross 183 = .ok (.istore 9, 2) := by decide +kernel
theorem dX8_cross_185 : decode cX8_cross 185 = .ok (.iload 10, 2) := by decide +kernel
theorem dX8_cross_187 : decode cX8_cross 187 = .ok (.iload 13, 2) := by decide +kernel
theorem dX8_cross_189 : decode cX8_cross 189 = .ok (.invokestatic 165, 3) := by decide +kernel
theorem dX8_cross_192 : decode cX8_cross 192 = .ok (.istore 10, 2) := by decide +kernel
theorem dX8_cross_194 : decode cX8_cross 194 = .ok (.iload 11, 2) := by decide +kernel
theorem dX8_cross_196 : decode cX8_cross 196 = .ok (.iload 13, 2) := by decide +kernel
theorem dX8_cross_198 : decode cX8_cross 198 = .ok (.invokestatic 171, 3) := by decide +kernel
theorem dX8_cross_201 : decode cX8_cross 201 = .ok (.istore 11, 2) := by decide +kernel
theorem dX8_cross_203 : decode cX8_cross 203 = .ok (.iinc 13 1, 3) := by decide +kernel
theorem dX8_cross_206 : decode cX8_cross 206 = .ok (.goto (-103), 3) := by decide +kernel
theorem dX8_cross_209 : decode cX8_cross 209 = .ok (.iinc 12 1, 3) := by decide +kernel
theorem dX8_cross_212 : decode cX8_cross 212 = .ok (.goto (-119), 3) := by decide +kernel
theorem dX8_cross_215 : decode cX8_cross 215 = .ok (.iload 6, 2) := by decide +kernel
theorem dX8_cross_217 : decode cX8_cross 217 = .ok (.ifCond .ne 5, 3) := by decide +kernel
theorem dX8_cross_220 : decode cX8_cross 220 = .ok (.iconst (-1), 1) := by decide +kernel
theorem dX8_cross_221 : decode cX8_cross 221 = .ok (.ireturn, 1) := by decide +kernel
theorem dX8_cross_222 : decode cX8_cross 222 = .ok (.iload_n 3, 1) := by decide +kernel
theorem dX8_cross_223 : decode cX8_cross 223 = .ok (.tableswitch 48 0 4 #[33, 36, 39, 42, 45], 33) := by decide +kernel
theorem dX8_cross_256 : decode cX8_cross 256 = .ok (.iload 6, 2) := by decide +kernel
theorem dX8_cross_258 : decode cX8_cross 258 = .ok (.ireturn, 1) := by decide +kernel
theorem dX8_cross_259 : decode cX8_cross 259 = .ok (.iload 7, 2) := by decide +kernel
theorem dX8_cross_261 : decode cX8_cross 261 = .ok (.ireturn, 1) := by decide +kernel
theorem dX8_cross_262 : decode cX8_cross 262 = .ok (.iload 8, 2) := by decide +kernel
theorem dX8_cross_264 : decode cX8_cross 264 = .ok (.ireturn, 1) := by decide +kernel
theorem dX8_cross_265 : decode cX8_cross 265 = .ok (.iload 9, 2) := by decide +kernel
theorem dX8_cross_267 : decode cX8_cross 267 = .ok (.ireturn, 1) := by decide +kernel
theorem dX8_cross_268 : decode cX8_cross 268 = .ok (.iload 10, 2) := by decide +kernel
theorem dX8_cross_270 : decode cX8_cross 270 = .ok (.ireturn, 1) := by decide +kernel
theorem dX8_cross_271 : decode cX8_cross 271 = .ok (.iload 11, 2) := by decide +kernel
theorem dX8_cross_273 : decode cX8_cross 273 = .ok (.ireturn, 1) := by decide +kernel
set_option maxHeartbeats 4000000 in
set_option maxRecDepth 100000 in
theorem t_X8_cross {l : Launch} {g : zG} {d : Nat} {s : zS} (hR : zRok s) {p0 : Int32} {p1 : Int32} {p2 : Int32} {K : Int32 → zS → Prop} (h : (zc l g d M_X8_isTelling [.ref 164, .int p0] s (zKz (fun b2 s1 => s1.2.2.1 = s.2.2.1 ∧ (if b2 = true then (zc l g d M_X8_isTelling [.ref 164, .int p1] s1 (zKz (fun b4 s3 => s3.2.2.1 = s1.2.2.1 ∧ (if b4 = true then (if (zinr p2.toInt64 (0 : Int64) (5 : Int64)) = true then (vp_in p0 60 ∧ (vp_in p1 60 ∧ (if (s3.1 (183 + p0.toNatClampNeg) 0) = (s3.1 (183 + p1.toNatClampNeg) 0) then K (-1 : Int32) s3 else (if (s3.1 (183 + p0.toNatClampNeg) 1) = (s3.1 (183 + p1.toNatClampNeg) 1) then zt l g (d + 1) M_X8_cross 93 [.ref 164, zJ, zJ, .int p2, .ref (183 + p0.toNatClampNeg), .ref (183 + p1.toNatClampNeg), .int (0 : Int32), .int (0 : Int32), .int (64 : Int32), .int (-1 : Int32), .int (64 : Int32), .int (-1 : Int32), .int (0 : Int32), zJ] [] s3 (zKi K) else K (-1 : Int32) s3)))) else K (-1 : Int32) s3) else K (-1 : Int32) s3)))) else K (-1 : Int32) s1))))) : zc l g (d + 1) M_X8_cross [.ref 164, .int p0, .int p1, .int p2] s (zKi K) := by
  refine zCall_of k_X8_cross (Nat.le_of_ble_eq_true rfl) (Nat.le_refl _) (fun _ => ?_)
  show zt l g (d + 1) M_X8_cross 0 [.ref 164, .int p0, .int p1, .int p2, zJ, zJ, zJ, zJ, zJ, zJ, zJ, zJ, zJ, zJ] [] s (zKi K)
  refine z_aload_n (i := 0) dX8_cross_0 rfl rfl rfl ?_
  refine z_iload_n (i := 1) dX8_cross_1 rfl rfl rfl ?_
  refine z_callV k_X8_isTelling m_X8_277 (zRec_of i_164) rfl h rfl (Nat.le_of_ble_eq_true rfl) dX8_cross_2 zy200 rfl ?_
  rintro v s1 ⟨b2, rfl, hRs1, h⟩
  show zt l g (d + 1) M_X8_cross 5 [.ref 164, .int p0, .int p1, .int p2, zJ, zJ, zJ, zJ, zJ, zJ, zJ, zJ, zJ, zJ] [.int (zb b2)] s1 _
  refine z_ifb_eq (pt := 28) dX8_cross_5 (by decide) rfl (fun c => ?_) (fun c => ?_)
  · have h := zif h (by rw [c]; exact Bool.false_ne_true)
    refine z_iconst (v := (-1 : Int32)) dX8_cross_28 (by decide) rfl ?_
    exact z_ret (some (.int (-1 : Int32))) (Or.inr (Or.inl ⟨_, _, rfl, rfl, rfl, dX8_cross_29⟩)) zN200 ⟨_, rfl, h⟩
  · have h := zit h c
    refine z_aload_n (i := 0) dX8_cross_8 rfl rfl rfl ?_
    refine z_iload_n (i := 2) dX8_cross_9 rfl rfl rfl ?_
    refine z_callV k_X8_isTelling m_X8_277 (zRec_of i_164) rfl h rfl (Nat.le_of_ble_eq_true rfl) dX8_cross_10 zy200 rfl ?_
    rintro v s3 ⟨b4, rfl, hRs3, h⟩
    show zt l g (d + 1) M_X8_cross 13 [.ref 164, .int p0, .int p1, .int p2, zJ, zJ, zJ, zJ, zJ, zJ, zJ, zJ, zJ, zJ] [.int (zb b4)] s3 _
    refine z_ifb_eq (pt := 28) dX8_cross_13 (by decide) rfl (fun c => ?_) (fun c => ?_)
    · have h := zif h (by rw [c]; exact Bool.false_ne_true)
      refine z_iconst (v := (-1 : Int32)) dX8_cross_28 (by decide) rfl ?_
      exact z_ret (some (.int (-1 : Int32))) (Or.inr (Or.inl ⟨_, _, rfl, rfl, rfl, dX8_cross_29⟩)) zN200 ⟨_, rfl, h⟩
    · have h := zit h c
      refine z_iload_n (i := 3) dX8_cross_16 rfl rfl rfl ?_
      refine z_i2l dX8_cross_17 rfl ?_
      refine z_lconst (v := (0 : Int64)) dX8_cross_18 (by decide) rfl ?_
      refine z_ldc2 (v := (5 : Int64)) q_X8_301 dX8_cross_19 rfl ?_
      refine z_in m_X8_147 dX8_cross_22 (Nat.le_of_ble_eq_true rfl) rfl ?_
      refine z_ifb_ne (pt := 30) dX8_cross_25 (by decide) rfl (fun c => ?_) (fun c => ?_)
      · have h := zit h c
        refine z_aload_n (i := 0) dX8_cross_30 rfl rfl rfl ?_
        refine z_getR (q := 182) f_X8_63 i_164 rfl (r_164_23 (zRok_of hRs3 (zRok_of hRs1 hR))) (by decide) dX8_cross_31 rfl ?_
        refine z_iload_n (i := 1) dX8_cross_34 rfl rfl rfl ?_
        obtain ⟨a5, h⟩ := h
        have wa5 := vin a5
        refine z_aald (q := 183 + p0.toNatClampNeg) (by decide) a_182 a5 (r_182 (zRok_of hRs3 (zRok_of hRs1 hR)) a5) (by omega) dX8_cross_35 rfl ?_
        refine z_astore dX8_cross_36 (by decide) (zokd rfl) rfl ?_
        show zt l g (d + 1) M_X8_cross 38 [.ref 164, .int p0, .int p1, .int p2, .ref (183 + p0.toNatClampNeg), zJ, zJ, zJ, zJ, zJ, zJ, zJ, zJ, zJ] [] s3 _
        refine z_aload_n (i := 0) dX8_cross_38 rfl rfl rfl ?_
        refine z_getR (q := 182) f_X8_63 i_164 rfl (r_164_23 (zRok_of hRs3 (zRok_of hRs1 hR))) (by decide) dX8_cross_39 rfl ?_
        refine z_iload_n (i := 2) dX8_cross_42 rfl rfl rfl ?_
        obtain ⟨a6, h⟩ := h
        have wa6 := vin a6
        refine z_aald (q := 183 + p1.toNatClampNeg) (by decide) a_182 a6 (r_182 (zRok_of hRs3 (zRok_of hRs1 hR)) a6) (by omega) dX8_cross_43 rfl ?_
        refine z_astore dX8_cross_44 (by decide) (zokd rfl) rfl ?_
        show zt l g (d + 1) M_X8_cross 46 [.ref 164, .int p0, .int p1, .int p2, .ref (183 + p0.toNatClampNeg), .ref (183 + p1.toNatClampNeg), zJ, zJ, zJ, zJ, zJ, zJ, zJ, zJ] [] s3 _
        refine z_aload dX8_cross_46 rfl rfl ?_
        refine z_iconst (v := (0 : Int32)) dX8_cross_48 (by decide) rfl ?_
        refine z_iald (x := s3.1 (183 + p0.toNatClampNeg) 0) rfl (a_row (p_182 a5)) (by unfold vp_in; decide) dX8_cross_49 rfl ?_
        refine z_aload dX8_cross_50 rfl rfl ?_
        refine z_iconst (v := (0 : Int32)) dX8_cross_52 (by decide) rfl ?_
        refine z_iald (x := s3.1 (183 + p1.toNatClampNeg) 0) rfl (a_row (p_182 a6)) (by unfold vp_in; decide) dX8_cross_53 rfl ?_
        refine z_icmp_eq (pt := 68) dX8_cross_54 (by decide) rfl (fun c => ?_) (fun c => ?_)
        · have h := zit h c
          refine z_iconst (v := (-1 : Int32)) dX8_cross_68 (by decide) rfl ?_
          exact z_ret (some (.int (-1 : Int32))) (Or.inr (Or.inl ⟨_, _, rfl, rfl, rfl, dX8_cross_69⟩)) zN200 ⟨_, rfl, h⟩
        · have h := zif h c
          refine z_aload dX8_cross_57 rfl rfl ?_
          refine z_iconst (v := (1 : Int32)) dX8_cross_59 (by decide) rfl ?_
          refine z_iald (x := s3.1 (183 + p0.toNatClampNeg) 1) rfl (a_row (p_182 a5)) (by unfold vp_in; decide) dX8_cross_60 rfl ?_
          refine z_aload dX8_cross_61 rfl rfl ?_
          refine z_iconst (v := (1 : Int32)) dX8_cross_63 (by decide) rfl ?_
          refine z_iald (x := s3.1 (183 + p1.toNatClampNeg) 1) rfl (a_row (p_182 a6)) (by unfold vp_in; decide) dX8_cross_64 rfl ?_
          refine z_icmp_eq (pt := 70) dX8_cross_65 (by decide) rfl (fun c => ?_) (fun c => ?_)
          · have h := zit h c
            refine z_iconst (v := (0 : Int32)) dX8_cross_70 (by decide) rfl ?_
            refine z_istore dX8_cross_71 (by decide) (zokd rfl) rfl ?_
            show zt l g (d + 1) M_X8_cross 73 [.ref 164, .int p0, .int p1, .int p2, .ref (183 + p0.toNatClampNeg), .ref (183 + p1.toNatClampNeg), .int (0 : Int32), zJ, zJ, zJ, zJ, zJ, zJ, zJ] [] s3 _
            refine z_iconst (v := (0 : Int32)) dX8_cross_73 (by decide) rfl ?_
            refine z_istore dX8_cross_74 (by decide) (zokd rfl) rfl ?_
            show zt l g (d + 1) M_X8_cross 76 [.ref 164, .int p0, .int p1, .int p2, .ref (183 + p0.toNatClampNeg), .ref (183 + p1.toNatClampNeg), .int (0 : Int32), .int (0 : Int32), zJ, zJ, zJ, zJ, zJ, zJ] [] s3 _
            refine z_bipush (v := (64 : Int32)) dX8_cross_76 (by decide) rfl ?_
            refine z_istore dX8_cross_78 (by decide) (zokd rfl) rfl ?_
            show zt l g (d + 1) M_X8_cross 80 [.ref 164, .int p0, .int p1, .int p2, .ref (183 + p0.toNatClampNeg), .ref (183 + p1.toNatClampNeg), .int (0 : Int32), .int (0 : Int32), .int (64 : Int32), zJ, zJ, zJ, zJ, zJ] [] s3 _
            refine z_iconst (v := (-1 : Int32)) dX8_cross_80 (by decide) rfl ?_
            refine z_istore dX8_cross_81 (by decide) (zokd rfl) rfl ?_
            show zt l g (d + 1) M_X8_cross 83 [.ref 164, .int p0, .int p1, .int p2, .ref (183 + p0.toNatClampNeg), .ref (183 + p1.toNatClampNeg), .int (0 : Int32), .int (0 : Int32), .int (64 : Int32), .int (-1 : Int32), zJ, zJ, zJ, zJ] [] s3 _
            refine z_bipush (v := (64 : Int32)) dX8_cross_83 (by decide) rfl ?_
            refine z_istore dX8_cross_85 (by decide) (zokd rfl) rfl ?_
            show zt l g (d + 1) M_X8_cross 87 [.ref 164, .int p0, .int p1, .int p2, .ref (183 + p0.toNatClampNeg), .ref (183 + p1.toNatClampNeg), .int (0 : Int32), .int (0 : Int32), .int (64 : Int32), .int (-1 : Int32), .int (64 : Int32), zJ, zJ, zJ] [] s3 _
            refine z_iconst (v := (-1 : Int32)) dX8_cross_87 (by decide) rfl ?_
            refine z_istore dX8_cross_88 (by decide) (zokd rfl) rfl ?_
            show zt l g (d + 1) M_X8_cross 90 [.ref 164, .int p0, .int p1, .int p2, .ref (183 + p0.toNatClampNeg), .ref (183 + p1.toNatClampNeg), .int (0 : Int32), .int (0 : Int32), .int (64 : Int32), .int (-1 : Int32), .int (64 : Int32), .int (-1 : Int32), zJ, zJ] [] s3 _
            refine z_iconst (v := (0 : Int32)) dX8_cross_90 (by decide) rfl ?_
            refine z_istore dX8_cross_91 (by decide) (zokd rfl) rfl ?_
            show zt l g (d + 1) M_X8_cross 93 [.ref 164, .int p0, .int p1, .int p2, .ref (183 + p0.toNatClampNeg), .ref (183 + p1.toNatClampNeg), .int (0 : Int32), .int (0 : Int32), .int (64 : Int32), .int (-1 : Int32), .int (64 : Int32), .int (-1 : Int32), .int (0 : Int32), zJ] [] s3 _
            refine z_wk (ls' := [.ref 164, zJ, zJ, .int p2, .ref (183 + p0.toNatClampNeg), .ref (183 + p1.toNatClampNeg), .int (0 : Int32), .int (0 : Int32), .int (64 : Int32), .int (-1 : Int32), .int (64 : Int32), .int (-1 : Int32), .int (0 : Int32), zJ]) ⟨Or.inr rfl, Or.inl rfl, Or.inl rfl, Or.inr rfl, Or.inr rfl, Or.inr rfl, Or.inr rfl, Or.inr rfl, Or.inr rfl, Or.inr rfl, Or.inr rfl, Or.inr rfl, Or.inr rfl, Or.inr rfl, trivial⟩ ?_
            exact h
          · have h := zif h c
            refine z_iconst (v := (-1 : Int32)) dX8_cross_68 (by decide) rfl ?_
            exact z_ret (some (.int (-1 : Int32))) (Or.inr (Or.inl ⟨_, _, rfl, rfl, rfl, dX8_cross_69⟩)) zN200 ⟨_, rfl, h⟩
      · have h := zif h (by rw [c]; exact Bool.false_ne_true)
        refine z_iconst (v := (-1 : Int32)) dX8_cross_28 (by decide) rfl ?_
        exact z_ret (some (.int (-1 : Int32))) (Or.inr (Or.inl ⟨_, _, rfl, rfl, rfl, dX8_cross_29⟩)) zN200 ⟨_, rfl, h⟩
set_option maxHeartbeats 4000000 in
set_option maxRecDepth 100000 in
theorem t_X8_cross_93 {l : Launch} {g : zG} {d : Nat} {s : zS} (hR : zRok s) {x3 : Int32} {x4 : Nat} (hx4 : 183 ≤ x4 ∧ x4 < 243) {x5 : Nat} (hx5 : 183 ≤ x5 ∧ x5 < 243) {x6 : Int32} {x7 : Int32} {x8 : Int32} {x9 : Int32} {x10 : Int32} {x11 : Int32} {x12 : Int32} {K : Int32 → zS → Prop} (h : (if (64 : Int32) ≤ x12 then (if x6 = 0 then K (-1 : Int32) s else (if x3 = (0 : Int32) then K x6 s else (if x3 = (1 : Int32) then K x7 s else (if x3 = (2 : Int32) then K x8 s else (if x3 = (3 : Int32) then K x9 s else (if x3 = (4 : Int32) then K x10 s else K x11 s)))))) else zt l g (d + 1) M_X8_cross 103 [.ref 164, zJ, zJ, .int x3, .ref x4, .ref x5, .int x6, .int x7, .int x8, .int x9, .int x10, .int x11, .int x12, .int (0 : Int32)] [] s (zKi K))) : zt l g (d + 1) M_X8_cross 93 [.ref 164, zJ, zJ, .int x3, .ref x4, .ref x5, .int x6, .int x7, .int x8, .int x9, .int x10, .int x11, .int x12, zJ] [] s (zKi K) := by
  refine z_iload dX8_cross_93 rfl rfl ?_
  refine z_bipush (v := (64 : Int32)) dX8_cross_95 (by decide) rfl ?_
  refine z_icmp_ge (pt := 215) dX8_cross_97 (by decide) rfl (fun c => ?_) (fun c => ?_)
  · have h := zit h c
    refine z_iload dX8_cross_215 rfl rfl ?_
    refine z_if_ne (pt := 222) dX8_cross_217 (by decide) rfl (fun c => ?_) (fun c => ?_)
    · have h := zif h c
      refine z_iload_n (i := 3) dX8_cross_222 rfl rfl rfl ?_
      by_cases c0 : x3 = (0 : Int32)
      · have h := zit h c0
        refine z_tableIn (pt := 256) dX8_cross_223 (by rw [c0]; decide) (by rw [c0]; decide) (by rw [c0]; rfl) (by decide) ?_
        refine z_iload dX8_cross_256 rfl rfl ?_
        exact z_ret (some (.int x6)) (Or.inr (Or.inl ⟨_, _, rfl, rfl, rfl, dX8_cross_258⟩)) zN200 ⟨_, rfl, h⟩
      have h := zif h c0
      by_cases c1 : x3 = (1 : Int32)
      · have h := zit h c1
        refine z_tableIn (pt := 259) dX8_cross_223 (by rw [c1]; decide) (by rw [c1]; decide) (by rw [c1]; rfl) (by decide) ?_
        refine z_iload dX8_cross_259 rfl rfl ?_
        exact z_ret (some (.int x7)) (Or.inr (Or.inl ⟨_, _, rfl, rfl, rfl, dX8_cross_261⟩)) zN200 ⟨_, rfl, h⟩
      have h := zif h c1
      by_cases c2 : x3 = (2 : Int32)
      · have h := zit h c2
        refine z_tableIn (pt := 262) dX8_cross_223 (by rw [c2]; decide) (by rw [c2]; decide) (by rw [c2]; rfl) (by decide) ?_
        refine z_iload dX8_cross_262 rfl rfl ?_
        exact z_ret (some (.int x8)) (Or.inr (Or.inl ⟨_, _, rfl, rfl, rfl, dX8_cross_264⟩)) zN200 ⟨_, rfl, h⟩
      have h := zif h c2
      by_cases c3 : x3 = (3 : Int32)
      · have h := zit h c3
        refine z_tableIn (pt := 265) dX8_cross_223 (by rw [c3]; decide) (by rw [c3]; decide) (by rw [c3]; rfl) (by decide) ?_
        refine z_iload dX8_cross_265 rfl rfl ?_
        exact z_ret (some (.int x9)) (Or.inr (Or.inl ⟨_, _, rfl, rfl, rfl, dX8_cross_267⟩)) zN200 ⟨_, rfl, h⟩
      have h := zif h c3
      by_cases c4 : x3 = (4 : Int32)
      · have h := zit h c4
        refine z_tableIn (pt := 268) dX8_cross_223 (by rw [c4]; decide) (by rw [c4]; decide) (by rw [c4]; rfl) (by decide) ?_
        refine z_iload dX8_cross_268 rfl rfl ?_
        exact z_ret (some (.int x10)) (Or.inr (Or.inl ⟨_, _, rfl, rfl, rfl, dX8_cross_270⟩)) zN200 ⟨_, rfl, h⟩
      have h := zif h c4
      refine z_tableOut (pt := 271) dX8_cross_223 (z_swout 0 5 (fun j hj => ?_)) (by decide) ?_
      · rcases (show j = 0 ∨ j = 1 ∨ j = 2 ∨ j = 3 ∨ j = 4 by omega) with rfl | rfl | rfl | rfl | rfl
        · exact c0
        · exact c1
        · exact c2
        · exact c3
        · exact c4
      · refine z_iload dX8_cross_271 rfl rfl ?_
        exact z_ret (some (.int x11)) (Or.inr (Or.inl ⟨_, _, rfl, rfl, rfl, dX8_cross_273⟩)) zN200 ⟨_, rfl, h⟩
    · have h := zit h c
      refine z_iconst (v := (-1 : Int32)) dX8_cross_220 (by decide) rfl ?_
      exact z_ret (some (.int (-1 : Int32))) (Or.inr (Or.inl ⟨_, _, rfl, rfl, rfl, dX8_cross_221⟩)) zN200 ⟨_, rfl, h⟩
  · have h := zif h c
    refine z_iconst (v := (0 : Int32)) dX8_cross_100 (by decide) rfl ?_
    refine z_istore dX8_cross_101 (by decide) (zokd rfl) rfl ?_
    show zt l g (d + 1) M_X8_cross 103 [.ref 164, zJ, zJ, .int x3, .ref x4, .ref x5, .int x6, .int x7, .int x8, .int x9, .int x10, .int x11, .int x12, .int (0 : Int32)] [] s _
    exact h
set_option maxHeartbeats 4000000 in
set_option maxRecDepth 100000 in
theorem t_X8_cross_103 {l : Launch} {g : zG} {d : Nat} {s : zS} (hR : zRok s) {x3 : Int32} {x4 : Nat} (hx4 : 183 ≤ x4 ∧ x4 < 243) {x5 : Nat} (hx5 : 183 ≤ x5 ∧ x5 < 243) {x6 : Int32} {x7 : Int32} {x8 : Int32} {x9 : Int32} {x10 : Int32} {x11 : Int32} {x12 : Int32} {x13 : Int32} {K : Int32 → zS → Prop} (h : (if (64 : Int32) ≤ x13 then zt l g (d + 1) M_X8_cross 93 [.ref 164, zJ, zJ, .int x3, .ref x4, .ref x5, .int x6, .int x7, .int x8, .int x9, .int x10, .int x11, .int (x12 + (1 : Int32)), zJ] [] s (zKi K) else (zc l g d M_X8_isCrossed [.ref 164, .ref x4, .int x12, .int x13] s (zKz (fun b2 s1 => s1.2.2.1 = s.2.2.1 ∧ (if b2 = true then (zc l g d M_X8_isCrossed [.ref 164, .ref x5, .int x12, .int x13] s1 (zKz (fun b4 s3 => s3.2.2.1 = s1.2.2.1 ∧ (if b4 = true then (zc l g d M_X8_hasHeight [.ref 164, .ref x4, .ref x5, .int x12, .int x13] s3 (zKz (fun b6 s5 => s5.2.2.1 = s3.2.2.1 ∧ (if b6 = true then zt l g (d + 1) M_X8_cross 103 [.ref 164, zJ, zJ, .int x3, .ref x4, .ref x5, .int (x6 + (1 : Int32)), .int (x7 + (1 : Int32)), .int (zmin x8 x12), .int (zmax x9 x12), .int (zmin x10 x13), .int (zmax x11 x13), .int x12, .int (x13 + (1 : Int32))] [] s5 (zKi K) else zt l g (d + 1) M_X8_cross 103 [.ref 164, zJ, zJ, .int x3, .ref x4, .ref x5, .int (x6 + (1 : Int32)), .int (x7 + (0 : Int32)), .int (zmin x8 x12), .int (zmax x9 x12), .int (zmin x10 x13), .int (zmax x11 x13), .int x12, .int (x13 + (1 : Int32))] [] s5 (zKi K))))) else zt l g (d + 1) M_X8_cross 103 [.ref 164, zJ, zJ, .int x3, .ref x4, .ref x5, .int x6, .int x7, .int x8, .int x9, .int x10, .int x11, .int x12, .int (x13 + (1 : Int32))] [] s3 (zKi K))))) else zt l g (d + 1) M_X8_cross 103 [.ref 164, zJ, zJ, .int x3, .ref x4, .ref x5, .int x6, .int x7, .int x8, .int x9, .int x10, .int x11, .int x12, .int (x13 + (1 : Int32))] [] s1 (zKi K))))))) : zt l g (d + 1) M_X8_cross 103 [.ref 164, zJ, zJ, .int x3, .ref x4, .ref x5, .int x6, .int x7, .int x8, .int x9, .int x10, .int x11, .int x12, .int x13] [] s (zKi K) := by
  refine z_iload dX8_cross_103 rfl rfl ?_
  refine z_bipush (v := (64 : Int32)) dX8_cross_105 (by decide) rfl ?_
  refine z_icmp_ge (pt := 209) dX8_cross_107 (by decide) rfl (fun c => ?_) (fun c => ?_)
  · have h := zit h c
    refine z_iinc (v := x12 + (1 : Int32)) dX8_cross_209 rfl rfl (by decide) (zokd rfl) rfl ?_
    show zt l g (d + 1) M_X8_cross 212 [.ref 164, zJ, zJ, .int x3, .ref x4, .ref x5, .int x6, .int x7, .int x8, .int x9, .int x10, .int x11, .int (x12 + (1 : Int32)), .int x13] [] s _
    refine z_goto (pn := 93) dX8_cross_212 (by decide) ?_
    refine z_wk (ls' := [.ref 164, zJ, zJ, .int x3, .ref x4, .ref x5, .int x6, .int x7, .int x8, .int x9, .int x10, .int x11, .int (x12 + (1 : Int32)), zJ]) ⟨Or.inr rfl, Or.inr rfl, Or.inr rfl, Or.inr rfl, Or.inr rfl, Or.inr rfl, Or.inr rfl, Or.inr rfl, Or.inr rfl, Or.inr rfl, Or.inr rfl, Or.inr rfl, Or.inr rfl, Or.inl rfl, trivial⟩ ?_
    exact h
  · have h := zif h c
    refine z_aload_n (i := 0) dX8_cross_110 rfl rfl rfl ?_
    refine z_aload dX8_cross_111 rfl rfl ?_
    refine z_iload dX8_cross_113 rfl rfl ?_
    refine z_iload dX8_cross_115 rfl rfl ?_
    refine z_callV k_X8_isCrossed m_X8_303 (zRec_of i_164) rfl h rfl (Nat.le_of_ble_eq_true rfl) dX8_cross_117 zy200 rfl ?_
    rintro v s1 ⟨b2, rfl, hRs1, h⟩
    show zt l g (d + 1) M_X8_cross 120 [.ref 164, zJ, zJ, .int x3, .ref x4, .ref x5, .int x6, .int x7, .int x8, .int x9, .int x10, .int x11, .int x12, .int x13] [.int (zb b2)] s1 _
    refine z_ifb_eq (pt := 203) dX8_cross_120 (by decide) rfl (fun c => ?_) (fun c => ?_)
    · have h := zif h (by rw [c]; exact Bool.false_ne_true)
      refine z_iinc (v := x13 + (1 : Int32)) dX8_cross_203 rfl rfl (by decide) (zokd rfl) rfl ?_
      show zt l g (d + 1) M_X8_cross 206 [.ref 164, zJ, zJ, .int x3, .ref x4, .ref x5, .int x6, .int x7, .int x8, .int x9, .int x10, .int x11, .int x12, .int (x13 + (1 : Int32))] [] s1 _
      refine z_goto (pn := 103) dX8_cross_206 (by decide) ?_
      exact h
    · have h := zit h c
      refine z_aload_n (i := 0) dX8_cross_123 rfl rfl rfl ?_
      refine z_aload dX8_cross_124 rfl rfl ?_
      refine z_iload dX8_cross_126 rfl rfl ?_
      refine z_iload dX8_cross_128 rfl rfl ?_
      refine z_callV k_X8_isCrossed m_X8_303 (zRec_of i_164) rfl h rfl (Nat.le_of_ble_eq_true rfl) dX8_cross_130 zy200 rfl ?_
      rintro v s3 ⟨b4, rfl, hRs3, h⟩
      show zt l g (d + 1) M_X8_cross 133 [.ref 164, zJ, zJ, .int x3, .ref x4, .ref x5, .int x6, .int x7, .int x8, .int x9, .int x10, .int x11, .int x12, .int x13] [.int (zb b4)] s3 _
      refine z_ifb_ne (pt := 139) dX8_cross_133 (by decide) rfl (fun c => ?_) (fun c => ?_)
      · have h := zit h c
        refine z_iinc (v := x6 + (1 : Int32)) dX8_cross_139 rfl rfl (by decide) (zokd rfl) rfl ?_
        show zt l g (d + 1) M_X8_cross 142 [.ref 164, zJ, zJ, .int x3, .ref x4, .ref x5, .int (x6 + (1 : Int32)), .int x7, .int x8, .int x9, .int x10, .int x11, .int x12, .int x13] [] s3 _
        refine z_iload dX8_cross_142 rfl rfl ?_
        refine z_aload_n (i := 0) dX8_cross_144 rfl rfl rfl ?_
        refine z_aload dX8_cross_145 rfl rfl ?_
        refine z_aload dX8_cross_147 rfl rfl ?_
        refine z_iload dX8_cross_149 rfl rfl ?_
        refine z_iload dX8_cross_151 rfl rfl ?_
        refine z_callV k_X8_hasHeight m_X8_307 (zRec_of i_164) rfl h rfl (Nat.le_of_ble_eq_true rfl) dX8_cross_153 zy200 rfl ?_
        rintro v s5 ⟨b6, rfl, hRs5, h⟩
        show zt l g (d + 1) M_X8_cross 156 [.ref 164, zJ, zJ, .int x3, .ref x4, .ref x5, .int (x6 + (1 : Int32)), .int x7, .int x8, .int x9, .int x10, .int x11, .int x12, .int x13] [.int (zb b6), .int x7] s5 _
        refine z_ifb_eq (pt := 163) dX8_cross_156 (by decide) rfl (fun c => ?_) (fun c => ?_)
        · have h := zif h (by rw [c]; exact Bool.false_ne_true)
          refine z_iconst (v := (0 : Int32)) dX8_cross_163 (by decide) rfl ?_
          refine z_iadd dX8_cross_164 rfl ?_
          refine z_istore dX8_cross_165 (by decide) (zokd rfl) rfl ?_
          show zt l g (d + 1) M_X8_cross 167 [.ref 164, zJ, zJ, .int x3, .ref x4, .ref x5, .int (x6 + (1 : Int32)), .int (x7 + (0 : Int32)), .int x8, .int x9, .int x10, .int x11, .int x12, .int x13] [] s5 _
          refine z_iload dX8_cross_167 rfl rfl ?_
          refine z_iload dX8_cross_169 rfl rfl ?_
          refine z_mmin m_X8_165 dX8_cross_171 (Nat.le_of_ble_eq_true rfl) rfl ?_
          refine z_istore dX8_cross_174 (by decide) (zokd rfl) rfl ?_
          show zt l g (d + 1) M_X8_cross 176 [.ref 164, zJ, zJ, .int x3, .ref x4, .ref x5, .int (x6 + (1 : Int32)), .int (x7 + (0 : Int32)), .int (zmin x8 x12), .int x9, .int x10, .int x11, .int x12, .int x13] [] s5 _
          refine z_iload dX8_cross_176 rfl rfl ?_
          refine z_iload dX8_cross_178 rfl rfl ?_
          refine z_mmax m_X8_171 dX8_cross_180 (Nat.le_of_ble_eq_true rfl) rfl ?_
          refine z_istore dX8_cross_183 (by decide) (zokd rfl) rfl ?_
          show zt l g (d + 1) M_X8_cross 185 [.ref 164, zJ, zJ, .int x3, .ref x4, .ref x5, .int (x6 + (1 : Int32)), .int (x7 + (0 : Int32)), .int (zmin x8 x12), .int (zmax x9 x12), .int x10, .int x11, .int x12, .int x13] [] s5 _
          refine z_iload dX8_cross_185 rfl rfl ?_
          refine z_iload dX8_cross_187 rfl rfl ?_
          refine z_mmin m_X8_165 dX8_cross_189 (Nat.le_of_ble_eq_true rfl) rfl ?_
          refine z_istore dX8_cross_192 (by decide) (zokd rfl) rfl ?_
          show zt l g (d + 1) M_X8_cross 194 [.ref 164, zJ, zJ, .int x3, .ref x4, .ref x5, .int (x6 + (1 : Int32)), .int (x7 + (0 : Int32)), .int (zmin x8 x12), .int (zmax x9 x12), .int (zmin x10 x13), .int x11, .int x12, .int x13] [] s5 _
          refine z_iload dX8_cross_194 rfl rfl ?_
          refine z_iload dX8_cross_196 rfl rfl ?_
          refine z_mmax m_X8_171 dX8_cross_198 (Nat.le_of_ble_eq_true rfl) rfl ?_
          refine z_istore dX8_cross_201 (by decide) (zokd rfl) rfl ?_
          show zt l g (d + 1) M_X8_cross 203 [.ref 164, zJ, zJ, .int x3, .ref x4, .ref x5, .int (x6 + (1 : Int32)), .int (x7 + (0 : Int32)), .int (zmin x8 x12), .int (zmax x9 x12), .int (zmin x10 x13), .int (zmax x11 x13), .int x12, .int x13] [] s5 _
          refine z_iinc (v := x13 + (1 : Int32)) dX8_cross_203 rfl rfl (by decide) (zokd rfl) rfl ?_
          show zt l g (d + 1) M_X8_cross 206 [.ref 164, zJ, zJ, .int x3, .ref x4, .ref x5, .int (x6 + (1 : Int32)), .int (x7 + (0 : Int32)), .int (zmin x8 x12), .int (zmax x9 x12), .int (zmin x10 x13), .int (zmax x11 x13), .int x12, .int (x13 + (1 : Int32))] [] s5 _
          refine z_goto (pn := 103) dX8_cross_206 (by decide) ?_
          exact h
        · have h := zit h c
          refine z_iconst (v := (1 : Int32)) dX8_cross_159 (by decide) rfl ?_
          refine z_goto (pn := 164) dX8_cross_160 (by decide) ?_
          refine z_iadd dX8_cross_164 rfl ?_
          refine z_istore dX8_cross_165 (by decide) (zokd rfl) rfl ?_
          show zt l g (d + 1) M_X8_cross 167 [.ref 164, zJ, zJ, .int x3, .ref x4, .ref x5, .int (x6 + (1 : Int32)), .int (x7 + (1 : Int32)), .int x8, .int x9, .int x10, .int x11, .int x12, .int x13] [] s5 _
          refine z_iload dX8_cross_167 rfl rfl ?_
          refine z_iload dX8_cross_169 rfl rfl ?_
          refine z_mmin m_X8_165 dX8_cross_171 (Nat.le_of_ble_eq_true rfl) rfl ?_
          refine z_istore dX8_cross_174 (by decide) (zokd rfl) rfl ?_
          show zt l g (d + 1) M_X8_cross 176 [.ref 164, zJ, zJ, .int x3, .ref x4, .ref x5, .int (x6 + (1 : Int32)), .int (x7 + (1 : Int32)), .int (zmin x8 x12), .int x9, .int x10, .int x11, .int x12, .int x13] [] s5 _
          refine z_iload dX8_cross_176 rfl rfl ?_
          refine z_iload dX8_cross_178 rfl rfl ?_
          refine z_mmax m_X8_171 dX8_cross_180 (Nat.le_of_ble_eq_true rfl) rfl ?_
          refine z_istore dX8_cross_183 (by decide) (zokd rfl) rfl ?_
          show zt l g (d + 1) M_X8_cross 185 [.ref 164, zJ, zJ, .int x3, .ref x4, .ref x5, .int (x6 + (1 : Int32)), .int (x7 + (1 : Int32)), .int (zmin x8 x12), .int (zmax x9 x12), .int x10, .int x11, .int x12, .int x13] [] s5 _
          refine z_iload dX8_cross_185 rfl rfl ?_
          refine z_iload dX8_cross_187 rfl rfl ?_
          refine z_mmin m_X8_165 dX8_cross_189 (Nat.le_of_ble_eq_true rfl) rfl ?_
          refine z_istore dX8_cross_192 (by decide) (zokd rfl) rfl ?_
          show zt l g (d + 1) M_X8_cross 194 [.ref 164, zJ, zJ, .int x3, .ref x4, .ref x5, .int (x6 + (1 : Int32)), .int (x7 + (1 : Int32)), .int (zmin x8 x12), .int (zmax x9 x12), .int (zmin x10 x13), .int x11, .int x12, .int x13] [] s5 _
          refine z_iload dX8_cross_194 rfl rfl ?_
          refine z_iload dX8_cross_196 rfl rfl ?_
          refine z_mmax m_X8_171 dX8_cross_198 (Nat.le_of_ble_eq_true rfl) rfl ?_
          refine z_istore dX8_cross_201 (by decide) (zokd rfl) rfl ?_
          show zt l g (d + 1) M_X8_cross 203 [.ref 164, zJ, zJ, .int x3, .ref x4, .ref x5, .int (x6 + (1 : Int32)), .int (x7 + (1 : Int32)), .int (zmin x8 x12), .int (zmax x9 x12), .int (zmin x10 x13), .int (zmax x11 x13), .int x12, .int x13] [] s5 _
          refine z_iinc (v := x13 + (1 : Int32)) dX8_cross_203 rfl rfl (by decide) (zokd rfl) rfl ?_
          show zt l g (d + 1) M_X8_cross 206 [.ref 164, zJ, zJ, .int x3, .ref x4, .ref x5, .int (x6 + (1 : Int32)), .int (x7 + (1 : Int32)), .int (zmin x8 x12), .int (zmax x9 x12), .int (zmin x10 x13), .int (zmax x11 x13), .int x12, .int (x13 + (1 : Int32))] [] s5 _
          refine z_goto (pn := 103) dX8_cross_206 (by decide) ?_
          exact h
      · have h := zif h (by rw [c]; exact Bool.false_ne_true)
        refine z_goto (pn := 203) dX8_cross_136 (by decide) ?_
        refine z_iinc (v := x13 + (1 : Int32)) dX8_cross_203 rfl rfl (by decide) (zokd rfl) rfl ?_
        show zt l g (d + 1) M_X8_cross 206 [.ref 164, zJ, zJ, .int x3, .ref x4, .ref x5, .int x6, .int x7, .int x8, .int x9, .int x10, .int x11, .int x12, .int (x13 + (1 : Int32))] [] s3 _
        refine z_goto (pn := 103) dX8_cross_206 (by decide) ?_
        exact h
theorem dX8_out_0 : decode cX8_out 0 = .ok (.aload_n 0, 1) := by decide +kernel
theorem dX8_out_1 : decode cX8_out 1 = .ok (.iload_n 1, 1) := by decide +kernel
theorem dX8_out_2 : decode cX8_out 2 = .ok (.invokevirtual 219, 3) := by decide +kernel
theorem dX8_out_5 : decode cX8_out 5 = .ok (.ifCond .eq 21, 3) := by decide +kernel
theorem dX8_out_8 : decode cX8_out 8 = .ok (.aload_n 0, 1) := by decide +kernel
theorem dX8_out_9 : decode cX8_out 9 = .ok (.iload_n 2, 1) := by decide +kernel
theorem dX8_out_10 : decode cX8_out 10 = .ok (.invokevirtual 252, 3) := by decide +kernel
theorem dX8_out_13 : decode cX8_out 13 = .ok (.ifCond .eq 13, 3) := by decide +kernel
theorem dX8_out_16 : decode cX8_out 16 = .ok (.aload_n 0, 1) := by decide +kernel
theorem dX8_out_17 : decode cX8_out 17 = .ok (.getfield 31, 3) := by decide +kernel
theorem dX8_out_20 : decode cX8_out 20 = .ok (.iload_n 1, 1) := by decide +kernel
theorem dX8_out_21 : decode cX8_out 21 = .ok (.iaload, 1) := by decide +kernel
theorem dX8_out_22 : decode cX8_out 22 = .ok (.iconst 2, 1) := by decide +kernel
theorem dX8_out_23 : decode cX8_out 23 = .ok (.if_icmp .eq 5, 3) := by decide +kernel
theorem dX8_out_26 : decode cX8_out 26 = .ok (.iconst (-1), 1) := by decide +kernel
theorem dX8_out_27 : decode cX8_out 27 = .ok (.ireturn, 1) := by decide +kernel
theorem dX8_out_28 : decode cX8_out 28 = .ok (.iconst 0, 1) := by decide +kernel
theorem dX8_out_29 : decode cX8_out 29 = .ok (.istore_n 3, 1) := by decide +kernel
theorem dX8_out_30 : decode cX8_out 30 = .ok (.aload_n 0, 1) := by decide +kernel
theorem dX8_out_31 : decode cX8_out 31 = .ok (.getfield 34, 3) := by decide +kernel
theorem dX8_out_34 : decode cX8_out 34 = .ok (.iload_n 1, 1) := by decide +kernel
theorem dX8_out_35 : decode cX8_out 35 = .ok (.iaload, 1) := by decide +kernel
theorem dX8_out_36 : decode cX8_out 36 = .ok (.istore 4, 2) := by decide +kernel
theorem dX8_out_38 : decode cX8_out 38 = .ok (.iload 4, 2) := by decide +kernel
theorem dX8_out_40 : decode cX8_out 40 = .ok (.aload_n 0, 1) := by decide +kernel
theorem dX8_out_41 : decode cX8_out 41 = .ok (.getfield 37, 3) := by decide +kernel
theorem dX8_out_44 : decode cX8_out 44 = .ok (.iload_n 1, 1) := by decide +kernel
theorem dX8_out_45 : decode cX8_out 45 = .ok (.iaload, 1) := by decide +kernel
theorem dX8_out_46 : decode cX8_out 46 = .ok (.iconst 1, 1) := by decide +kernel
theorem dX8_out_47 : decode cX8_out 47 = .ok (.iadd, 1) := by decide +kernel
theorem dX8_out_48 : decode cX8_out 48 = .ok (.if_icmp .gt 50, 3) := by decide +kernel
theorem dX8_out_51 : decode cX8_out 51 = .ok (.iload 4, 2) := by decide +kernel
theorem dX8_out_53 : decode cX8_out 53 = .ok (.sipush 240, 3) := by decide +kernel
theorem dX8_out_56 : decode cX8_out 56 = .ok (.if_icmp .ge 18, 3) := by decide +kernel
theorem dX8_out_59 : decode cX8_out 59 = .ok (.aload_n 0, 1) := by decide +kernel
theorem dX8_out_60 : decode cX8_out 60 = .ok (.iload_n 1, 1) := by decide +kernel
theorem dX8_out_61 : decode cX8_out 61 = .ok (.iload_n 2, 1) := by decide +kernel
theorem dX8_out_62 : decode cX8_out 62 = .ok (.iload 4, 2) := by decide +kernel
theorem dX8_out_64 : decode cX8_out 64 = .ok (.invokevirtual 255, 3) := by decide +kernel
theorem dX8_out_67 : decode cX8_out 67 = .ok (.ifCond .eq 7, 3) := by decide +kernel
theorem dX8_out_70 : decode cX8_out 70 = .ok (.iconst 1, 1) := by decide +kernel
theorem dX8_out_71 : decode cX8_out 71 = .ok (.goto 4, 3) := by decide +kernel
theorem dX8_out_74 : decode cX8_out 74 = .ok (.iconst 0, 1) := by decide +kernel
theorem dX8_out_75 : decode cX8_out 75 = .ok (.istore 5, 2) := by decide +kernel
theorem dX8_out_77 : decode cX8_out 77 = .ok (.iload_n 3, 1) := by decide +kernel
theorem dX8_out_78 : decode cX8_out 78 = .ok (.ifCond .eq 11, 3) := by decide +kernel
theorem dX8_out_81 : decode cX8_out 81 = .ok (.iload 5, 2) := by decide +kernel
theorem dX8_out_83 : decode cX8_out 83 = .ok (.ifCond .ne 6, 3) := by decide +kernel
theorem dX8_out_86 : decode cX8_out 86 = .ok (.iload 4, 2) := by decide +kernel
theorem dX8_out_88 : decode cX8_out 88 = .ok (.ireturn, 1) := by decide +kernel
theorem dX8_out_89 : decode cX8_out 89 = .ok (.iload 5, 2) := by decide +kernel
theorem dX8_out_91 : decode cX8_out 91 = .ok (.istore_n 3, 1) := by decide +kernel
theorem dX8_out_92 : decode cX8_out 92 = .ok (.iinc 4 1, 3) := by decide +kernel
theorem dX8_out_95 : decode cX8_out 95 = .ok (.goto (-57), 3) := by decide +kernel
theorem dX8_out_98 : decode cX8_out 98 = .ok (.iconst (-1), 1) := by decide +kernel
theorem dX8_out_99 : decode cX8_out 99 = .ok (.ireturn, 1) := by decide +kernel
set_option maxHeartbeats 4000000 in
set_option maxRecDepth 100000 in
theorem t_X8_out {l : Launch} {g : zG} {d : Nat} {s : zS} (hR : zRok s) {p0 : Int32} {p1 : Int32} {K : Int32 → zS → Prop} (h : (zc l g d M_X8_isThing [.ref 164, .int p0] s (zKz (fun b2 s1 => s1.2.2.1 = s.2.2.1 ∧ (if b2 = true then (zc l g d M_X8_isSeer [.ref 164, .int p1] s1 (zKz (fun b4 s3 => s3.2.2.1 = s1.2.2.1 ∧ (if b4 = true then (vp_in p0 12 ∧ (if (s3.1 172 p0.toNatClampNeg) = (2 : Int32) then (vp_in p0 12 ∧ (∀ v7 : Int32, v7 = s3.1 173 p0.toNatClampNeg → zt l g (d + 1) M_X8_out 38 [.ref 164, .int p0, .int p1, .int (0 : Int32), .int v7, zJ] [] s3 (zKi K))) else K (-1 : Int32) s3)) else K (-1 : Int32) s3)))) else K (-1 : Int32) s1))))) : zc l g (d + 1) M_X8_out [.ref 164, .int p0, .int p1] s (zKi K) := by
  refine zCall_of k_X8_out (Nat.le_of_ble_eq_true rfl) (Nat.le_refl _) (fun _ => ?_)
  show zt l g (d + 1) M_X8_out 0 [.ref 164, .int p0, .int p1, zJ, zJ, zJ] [] s (zKi K)
  refine z_aload_n (i := 0) dX8_out_0 rfl rfl rfl ?_
  refine z_iload_n (i := 1) dX8_out_1 rfl rfl rfl ?_
  refine z_callV k_X8_isThing m_X8_219 (zRec_of i_164) rfl h rfl (Nat.le_of_ble_eq_true rfl) dX8_out_2 zy200 rfl ?_
  rintro v s1 ⟨b2, rfl, hRs1, h⟩
  show zt l g (d + 1) M_X8_out 5 [.ref 164, .int p0, .int p1, zJ, zJ, zJ] [.int (zb b2)] s1 _
  refine z_ifb_eq (pt := 26) dX8_out_5 (by decide) rfl (fun c => ?_) (fun c => ?_)
  · have h := zif h (by rw [c]; exact Bool.false_ne_true)
    refine z_iconst (v := (-1 : Int32)) dX8_out_26 (by decide) rfl ?_
    exact z_ret (some (.int (-1 : Int32))) (Or.inr (Or.inl ⟨_, _, rfl, rfl, rfl, dX8_out_27⟩)) zN200 ⟨_, rfl, h⟩
  · have h := zit h c
    refine z_aload_n (i := 0) dX8_out_8 rfl rfl rfl ?_
    refine z_iload_n (i := 2) dX8_out_9 rfl rfl rfl ?_
    refine z_callV k_X8_isSeer m_X8_252 (zRec_of i_164) rfl h rfl (Nat.le_of_ble_eq_true rfl) dX8_out_10 zy200 rfl ?_
    rintro v s3 ⟨b4, rfl, hRs3, h⟩
    show zt l g (d + 1) M_X8_out 13 [.ref 164, .int p0, .int p1, zJ, zJ, zJ] [.int (zb b4)] s3 _
    refine z_ifb_eq (pt := 26) dX8_out_13 (by decide) rfl (fun c => ?_) (fun c => ?_)
    · have h := zif h (by rw [c]; exact Bool.false_ne_true)
      refine z_iconst (v := (-1 : Int32)) dX8_out_26 (by decide) rfl ?_
      exact z_ret (some (.int (-1 : Int32))) (Or.inr (Or.inl ⟨_, _, rfl, rfl, rfl, dX8_out_27⟩)) zN200 ⟨_, rfl, h⟩
    · have h := zit h c
      refine z_aload_n (i := 0) dX8_out_16 rfl rfl rfl ?_
      refine z_getR (q := 172) f_X8_31 i_164 rfl (r_164_7 (zRok_of hRs3 (zRok_of hRs1 hR))) (by decide) dX8_out_17 rfl ?_
      refine z_iload_n (i := 1) dX8_out_20 rfl rfl rfl ?_
      obtain ⟨a5, h⟩ := h
      have wa5 := vin a5
      refine z_iald (x := s3.1 172 p0.toNatClampNeg) rfl a_172 a5 dX8_out_21 rfl ?_
      refine z_iconst (v := (2 : Int32)) dX8_out_22 (by decide) rfl ?_
      refine z_icmp_eq (pt := 28) dX8_out_23 (by decide) rfl (fun c => ?_) (fun c => ?_)
      · have h := zit h c
        refine z_iconst (v := (0 : Int32)) dX8_out_28 (by decide) rfl ?_
        refine z_istore_n (i := 3) dX8_out_29 rfl (by decide) (zokd rfl) rfl ?_
        show zt l g (d + 1) M_X8_out 30 [.ref 164, .int p0, .int p1, .int (0 : Int32), zJ, zJ] [] s3 _
        refine z_aload_n (i := 0) dX8_out_30 rfl rfl rfl ?_
        refine z_getR (q := 173) f_X8_34 i_164 rfl (r_164_8 (zRok_of hRs3 (zRok_of hRs1 hR))) (by decide) dX8_out_31 rfl ?_
        refine z_iload_n (i := 1) dX8_out_34 rfl rfl rfl ?_
        obtain ⟨a6, h⟩ := h
        have wa6 := vin a6
        refine z_iald (x := s3.1 173 p0.toNatClampNeg) rfl a_173 a6 dX8_out_35 rfl ?_
        refine z_istore dX8_out_36 (by decide) (zokd rfl) rfl ?_
        obtain ⟨v7, ev7⟩ : ∃ x : Int32, x = s3.1 173 p0.toNatClampNeg := ⟨_, rfl⟩
        rw [← ev7]
        have h := h v7 ev7
        show zt l g (d + 1) M_X8_out 38 [.ref 164, .int p0, .int p1, .int (0 : Int32), .int v7, zJ] [] s3 _
        exact h
      · have h := zif h c
        refine z_iconst (v := (-1 : Int32)) dX8_out_26 (by decide) rfl ?_
        exact z_ret (some (.int (-1 : Int32))) (Or.inr (Or.inl ⟨_, _, rfl, rfl, rfl, dX8_out_27⟩)) zN200 ⟨_, rfl, h⟩
set_option maxHeartbeats 4000000 in
set_option maxRecDepth 100000 in
theorem t_X8_out_38 {l : Launch} {g : zG} {d : Nat} {s : zS} (hR : zRok s) {x1 : Int32} {x2 : Int32} {x3 : Int32} {x4 : Int32} {K : Int32 → zS → Prop} (h : (vp_in x1 12 ∧ (if ((s.1 174 x1.toNatClampNeg) + (1 : Int32)) < x4 then K (-1 : Int32) s else (if (240 : Int32) ≤ x4 then (if x3 = 0 then zt l g (d + 1) M_X8_out 38 [.ref 164, .int x1, .int x2, .int (0 : Int32), .int (x4 + (1 : Int32)), zJ] [] s (zKi K) else K x4 s) else (zc l g d M_X8_isShown [.ref 164, .int x1, .int x2, .int x4] s (zKz (fun b3 s2 => s2.2.2.1 = s.2.2.1 ∧ (if b3 = true then (if x3 = 0 then zt l g (d + 1) M_X8_out 38 [.ref 164, .int x1, .int x2, .int (1 : Int32), .int (x4 + (1 : Int32)), zJ] [] s2 (zKi K) else zt l g (d + 1) M_X8_out 38 [.ref 164, .int x1, .int x2, .int (1 : Int32), .int (x4 + (1 : Int32)), zJ] [] s2 (zKi K)) else (if x3 = 0 then zt l g (d + 1) M_X8_out 38 [.ref 164, .int x1, .int x2, .int (0 : Int32), .int (x4 + (1 : Int32)), zJ] [] s2 (zKi K) else K x4 s2))))))))) : zt l g (d + 1) M_X8_out 38 [.ref 164, .int x1, .int x2, .int x3, .int x4, zJ] [] s (zKi K) := by
  refine z_iload dX8_out_38 rfl rfl ?_
  refine z_aload_n (i := 0) dX8_out_40 rfl rfl rfl ?_
  refine z_getR (q := 174) f_X8_37 i_164 rfl (r_164_9 hR) (by decide) dX8_out_41 rfl ?_
  refine z_iload_n (i := 1) dX8_out_44 rfl rfl rfl ?_
  obtain ⟨a1, h⟩ := h
  have wa1 := vin a1
  refine z_iald (x := s.1 174 x1.toNatClampNeg) rfl a_174 a1 dX8_out_45 rfl ?_
  refine z_iconst (v := (1 : Int32)) dX8_out_46 (by decide) rfl ?_
  refine z_iadd dX8_out_47 rfl ?_
  refine z_icmp_gt (pt := 98) dX8_out_48 (by decide) rfl (fun c => ?_) (fun c => ?_)
  · have h := zit h c
    refine z_iconst (v := (-1 : Int32)) dX8_out_98 (by decide) rfl ?_
    exact z_ret (some (.int (-1 : Int32))) (Or.inr (Or.inl ⟨_, _, rfl, rfl, rfl, dX8_out_99⟩)) zN200 ⟨_, rfl, h⟩
  · have h := zif h c
    refine z_iload dX8_out_51 rfl rfl ?_
    refine z_sipush (v := (240 : Int32)) dX8_out_53 (by decide) rfl ?_
    refine z_icmp_ge (pt := 74) dX8_out_56 (by decide) rfl (fun c => ?_) (fun c => ?_)
    · have h := zit h c
      refine z_iconst (v := (0 : Int32)) dX8_out_74 (by decide) rfl ?_
      refine z_istore dX8_out_75 (by decide) (zokd rfl) rfl ?_
      show zt l g (d + 1) M_X8_out 77 [.ref 164, .int x1, .int x2, .int x3, .int x4, .int (0 : Int32)] [] s _
      refine z_iload_n (i := 3) dX8_out_77 rfl rfl rfl ?_
      refine z_if_eq (pt := 89) dX8_out_78 (by decide) rfl (fun c => ?_) (fun c => ?_)
      · have h := zit h c
        refine z_iload dX8_out_89 rfl rfl ?_
        refine z_istore_n (i := 3) dX8_out_91 rfl (by decide) (zokd rfl) rfl ?_
        show zt l g (d + 1) M_X8_out 92 [.ref 164, .int x1, .int x2, .int (0 : Int32), .int x4, .int (0 : Int32)] [] s _
        refine z_iinc (v := x4 + (1 : Int32)) dX8_out_92 rfl rfl (by decide) (zokd rfl) rfl ?_
        show zt l g (d + 1) M_X8_out 95 [.ref 164, .int x1, .int x2, .int (0 : Int32), .int (x4 + (1 : Int32)), .int (0 : Int32)] [] s _
        refine z_goto (pn := 38) dX8_out_95 (by decide) ?_
        refine z_wk (ls' := [.ref 164, .int x1, .int x2, .int (0 : Int32), .int (x4 + (1 : Int32)), zJ]) ⟨Or.inr rfl, Or.inr rfl, Or.inr rfl, Or.inr rfl, Or.inr rfl, Or.inl rfl, trivial⟩ ?_
        exact h
      · have h := zif h c
        refine z_iload dX8_out_81 rfl rfl ?_
        refine z_if_ne (pt := 89) dX8_out_83 (by decide) rfl (fun c => absurd rfl c) (fun _ => ?_)
        refine z_iload dX8_out_86 rfl rfl ?_
        exact z_ret (some (.int x4)) (Or.inr (Or.inl ⟨_, _, rfl, rfl, rfl, dX8_out_88⟩)) zN200 ⟨_, rfl, h⟩
    · have h := zif h c
      refine z_aload_n (i := 0) dX8_out_59 rfl rfl rfl ?_
      refine z_iload_n (i := 1) dX8_out_60 rfl rfl rfl ?_
      refine z_iload_n (i := 2) dX8_out_61 rfl rfl rfl ?_
      refine z_iload dX8_out_62 rfl rfl ?_
      refine z_callV k_X8_isShown m_X8_255 (zRec_of i_164) rfl h rfl (Nat.le_of_ble_eq_true rfl) dX8_out_64 zy200 rfl ?_
      rintro v s2 ⟨b3, rfl, hRs2, h⟩
      show zt l g (d + 1) M_X8_out 67 [.ref 164, .int x1, .int x2, .int x3, .int x4, zJ] [.int (zb b3)] s2 _
      refine z_ifb_eq (pt := 74) dX8_out_67 (by decide) rfl (fun c => ?_) (fun c => ?_)
      · have h := zif h (by rw [c]; exact Bool.false_ne_true)
        refine z_iconst (v := (0 : Int32)) dX8_out_74 (by decide) rfl ?_
        refine z_istore dX8_out_75 (by decide) (zokd rfl) rfl ?_
        show zt l g (d + 1) M_X8_out 77 [.ref 164, .int x1, .int x2, .int x3, .int x4, .int (0 : Int32)] [] s2 _
        refine z_iload_n (i := 3) dX8_out_77 rfl rfl rfl ?_
        refine z_if_eq (pt := 89) dX8_out_78 (by decide) rfl (fun c => ?_) (fun c => ?_)
        · have h := zit h c
          refine z_iload dX8_out_89 rfl rfl ?_
          refine z_istore_n (i := 3) dX8_out_91 rfl (by decide) (zokd rfl) rfl ?_
          show zt l g (d + 1) M_X8_out 92 [.ref 164, .int x1, .int x2, .int (0 : Int32), .int x4, .int (0 : Int32)] [] s2 _
          refine z_iinc (v := x4 + (1 : Int32)) dX8_out_92 rfl rfl (by decide) (zokd rfl) rfl ?_
          show zt l g (d + 1) M_X8_out 95 [.ref 164, .int x1, .int x2, .int (0 : Int32), .int (x4 + (1 : Int32)), .int (0 : Int32)] [] s2 _
          refine z_goto (pn := 38) dX8_out_95 (by decide) ?_
          refine z_wk (ls' := [.ref 164, .int x1, .int x2, .int (0 : Int32), .int (x4 + (1 : Int32)), zJ]) ⟨Or.inr rfl, Or.inr rfl, Or.inr rfl, Or.inr rfl, Or.inr rfl, Or.inl rfl, trivial⟩ ?_
          exact h
        · have h := zif h c
          refine z_iload dX8_out_81 rfl rfl ?_
          refine z_if_ne (pt := 89) dX8_out_83 (by decide) rfl (fun c => absurd rfl c) (fun _ => ?_)
          refine z_iload dX8_out_86 rfl rfl ?_
          exact z_ret (some (.int x4)) (Or.inr (Or.inl ⟨_, _, rfl, rfl, rfl, dX8_out_88⟩)) zN200 ⟨_, rfl, h⟩
      · have h := zit h c
        refine z_iconst (v := (1 : Int32)) dX8_out_70 (by decide) rfl ?_
        refine z_goto (pn := 75) dX8_out_71 (by decide) ?_
        refine z_istore dX8_out_75 (by decide) (zokd rfl) rfl ?_
        show zt l g (d + 1) M_X8_out 77 [.ref 164, .int x1, .int x2, .int x3, .int x4, .int (1 : Int32)] [] s2 _
        refine z_iload_n (i := 3) dX8_out_77 rfl rfl rfl ?_
        refine z_if_eq (pt := 89) dX8_out_78 (by decide) rfl (fun c => ?_) (fun c => ?_)
        · have h := zit h c
          refine z_iload dX8_out_89 rfl rfl ?_
          refine z_istore_n (i := 3) dX8_out_91 rfl (by decide) (zokd rfl) rfl ?_
          show zt l g (d + 1) M_X8_out 92 [.ref 164, .int x1, .int x2, .int (1 : Int32), .int x4, .int (1 : Int32)] [] s2 _
          refine z_iinc (v := x4 + (1 : Int32)) dX8_out_92 rfl rfl (by decide) (zokd rfl) rfl ?_
          show zt l g (d + 1) M_X8_out 95 [.ref 164, .int x1, .int x2, .int (1 : Int32), .int (x4 + (1 : Int32)), .int (1 : Int32)] [] s2 _
          refine z_goto (pn := 38) dX8_out_95 (by decide) ?_
          refine z_wk (ls' := [.ref 164, .int x1, .int x2, .int (1 : Int32), .int (x4 + (1 : Int32)), zJ]) ⟨Or.inr rfl, Or.inr rfl, Or.inr rfl, Or.inr rfl, Or.inr rfl, Or.inl rfl, trivial⟩ ?_
          exact h
        · have h := zif h c
          refine z_iload dX8_out_81 rfl rfl ?_
          refine z_if_ne (pt := 89) dX8_out_83 (by decide) rfl (fun _ => ?_) (fun c => absurd c (by decide))
          refine z_iload dX8_out_89 rfl rfl ?_
          refine z_istore_n (i := 3) dX8_out_91 rfl (by decide) (zokd rfl) rfl ?_
          show zt l g (d + 1) M_X8_out 92 [.ref 164, .int x1, .int x2, .int (1 : Int32), .int x4, .int (1 : Int32)] [] s2 _
          refine z_iinc (v := x4 + (1 : Int32)) dX8_out_92 rfl rfl (by decide) (zokd rfl) rfl ?_
          show zt l g (d + 1) M_X8_out 95 [.ref 164, .int x1, .int x2, .int (1 : Int32), .int (x4 + (1 : Int32)), .int (1 : Int32)] [] s2 _
          refine z_goto (pn := 38) dX8_out_95 (by decide) ?_
          refine z_wk (ls' := [.ref 164, .int x1, .int x2, .int (1 : Int32), .int (x4 + (1 : Int32)), zJ]) ⟨Or.inr rfl, Or.inr rfl, Or.inr rfl, Or.inr rfl, Or.inr rfl, Or.inl rfl, trivial⟩ ?_
          exact h
theorem dX8_isUp_0 : decode cX8_isUp 0 = .ok (.iload 4, 2) := by decide +kernel
theorem dX8_isUp_2 : decode cX8_isUp 2 = .ok (.aload_n 0, 1) := by decide +kernel
theorem dX8_isUp_3 : decode cX8_isUp 3 = .ok (.iload_n 2, 1) := by decide +kernel
theorem dX8_isUp_4 : decode cX8_isUp 4 = .ok (.iload_n 3, 1) := by decide +kernel
theorem dX8_isUp_5 : decode cX8_isUp 5 = .ok (.invokevirtual 177, 3) := by decide +kernel
theorem dX8_isUp_8 : decode cX8_isUp 8 = .ok (.if_icmp .le 20, 3) := by decide +kernel
theorem dX8_isUp_11 : decode cX8_isUp 11 = .ok (.aload_n 0, 1) := by decide +kernel
theorem dX8_isUp_12 : decode cX8_isUp 12 = .ok (.iload_n 1, 1) := by decide +kernel
theorem dX8_isUp_13 : decode cX8_isUp 13 = .ok (.iload_n 2, 1) := by decide +kernel
theorem dX8_isUp_14 : decode cX8_isUp 14 = .ok (.iload_n 3, 1) := by decide +kernel
theorem dX8_isUp_15 : decode cX8_isUp 15 = .ok (.iload 4, 2) := by decide +kernel
theorem dX8_isUp_17 : decode cX8_isUp 17 = .ok (.invokevirtual 239, 3) := by decide +kernel
theorem dX8_isUp_20 : decode cX8_isUp 20 = .ok (.iconst (-1), 1) := by decide +kernel
theorem dX8_isUp_21 : decode cX8_isUp 21 = .ok (.if_icmp .ne 7, 3) := by decide +kernel
theorem dX8_isUp_24 : decode cX8_isUp 24 = .ok (.iconst 1, 1) := by decide +kernel
theorem dX8_isUp_25 : decode cX8_isUp 25 = .ok (.goto 4, 3) := by decide +kernel
theorem dX8_isUp_28 : decode cX8_isUp 28 = .ok (.iconst 0, 1) := by decide +kernel
theorem dX8_isUp_29 : decode cX8_isUp 29 = .ok (.ireturn, 1) := by decide +kernel
set_option maxHeartbeats 4000000 in
set_option maxRecDepth 100000 in
theorem t_X8_isUp {l : Launch} {g : zG} {d : Nat} {s : zS} (hR : zRok s) {p0 : Int32} {p1 : Int32} {p2 : Int32} {p3 : Int32} {K : Bool → zS → Prop} (h : (zc l g d M_X8_groundAt [.ref 164, .int p1, .int p2] s (zKi (fun r2 s1 => s1.2.2.1 = s.2.2.1 ∧ (if p3 ≤ r2 then K false s1 else (zc l g d M_X8_hider [.ref 164, .int p0, .int p1, .int p2, .int p3] s1 (zKi (fun r4 s3 => s3.2.2.1 = s1.2.2.1 ∧ (if r4 = (-1 : Int32) then K true s3 else K false s3))))))))) : zc l g (d + 1) M_X8_isUp [.ref 164, .int p0, .int p1, .int p2, .int p3] s (zKz K) := by
  refine zCall_of k_X8_isUp (Nat.le_of_ble_eq_true rfl) (Nat.le_refl _) (fun _ => ?_)
  show zt l g (d + 1) M_X8_isUp 0 [.ref 164, .int p0, .int p1, .int p2, .int p3] [] s (zKz K)
  refine z_iload dX8_isUp_0 rfl rfl ?_
  refine z_aload_n (i := 0) dX8_isUp_2 rfl rfl rfl ?_
  refine z_iload_n (i := 2) dX8_isUp_3 rfl rfl rfl ?_
  refine z_iload_n (i := 3) dX8_isUp_4 rfl rfl rfl ?_
  refine z_callV k_X8_groundAt m_X8_177 (zRec_of i_164) rfl h rfl (Nat.le_of_ble_eq_true rfl) dX8_isUp_5 zy200 rfl ?_
  rintro v s1 ⟨r2, rfl, hRs1, h⟩
  show zt l g (d + 1) M_X8_isUp 8 [.ref 164, .int p0, .int p1, .int p2, .int p3] [.int r2, .int p3] s1 _
  refine z_icmp_le (pt := 28) dX8_isUp_8 (by decide) rfl (fun c => ?_) (fun c => ?_)
  · have h := zit h c
    refine z_iconst (v := (0 : Int32)) dX8_isUp_28 (by decide) rfl ?_
    exact z_ret (some (.int (zb false))) (Or.inr (Or.inl ⟨_, _, rfl, rfl, zb_nar _, dX8_isUp_29⟩)) zN200 ⟨_, rfl, h⟩
  · have h := zif h c
    refine z_aload_n (i := 0) dX8_isUp_11 rfl rfl rfl ?_
    refine z_iload_n (i := 1) dX8_isUp_12 rfl rfl rfl ?_
    refine z_iload_n (i := 2) dX8_isUp_13 rfl rfl rfl ?_
    refine z_iload_n (i := 3) dX8_isUp_14 rfl rfl rfl ?_
    refine z_iload dX8_isUp_15 rfl rfl ?_
    refine z_callV k_X8_hider m_X8_239 (zRec_of i_164) rfl h rfl (Nat.le_of_ble_eq_true rfl) dX8_isUp_17 zy200 rfl ?_
    rintro v s3 ⟨r4, rfl, hRs3, h⟩
    show zt l g (d + 1) M_X8_isUp 20 [.ref 164, .int p0, .int p1, .int p2, .int p3] [.int r4] s3 _
    refine z_iconst (v := (-1 : Int32)) dX8_isUp_20 (by decide) rfl ?_
    refine z_icmp_ne (pt := 28) dX8_isUp_21 (by decide) rfl (fun c => ?_) (fun c => ?_)
    · have h := zif h c
      refine z_iconst (v := (0 : Int32)) dX8_isUp_28 (by decide) rfl ?_
      exact z_ret (some (.int (zb false))) (Or.inr (Or.inl ⟨_, _, rfl, rfl, zb_nar _, dX8_isUp_29⟩)) zN200 ⟨_, rfl, h⟩
    · have h := zit h c
      refine z_iconst (v := (1 : Int32)) dX8_isUp_24 (by decide) rfl ?_
      refine z_goto (pn := 29) dX8_isUp_25 (by decide) ?_
      exact z_ret (some (.int (zb true))) (Or.inr (Or.inl ⟨_, _, rfl, rfl, zb_nar _, dX8_isUp_29⟩)) zN200 ⟨_, rfl, h⟩
theorem dX8_outs_0 : decode cX8_outs 0 = .ok (.aload_n 0, 1) := by decide +kernel
theorem dX8_outs_1 : decode cX8_outs 1 = .ok (.iload_n 1, 1) := by decide +kernel
theorem dX8_outs_2 : decode cX8_outs 2 = .ok (.invokevirtual 252, 3) := by decide +kernel
theorem dX8_outs_5 : decode cX8_outs 5 = .ok (.ifCond .eq 35, 3) := by decide +kernel
theorem dX8_outs_8 : decode cX8_outs 8 = .ok (.iload_n 2, 1) := by decide +kernel
theorem dX8_outs_9 : decode cX8_outs 9 = .ok (.invokestatic 198, 3) := by decide +kernel
theorem dX8_outs_12 : decode cX8_outs 12 = .ok (.ifCond .eq 28, 3) := by decide +kernel
theorem dX8_outs_15 : decode cX8_outs 15 = .ok (.iload_n 3, 1) := by decide +kernel
theorem dX8_outs_16 : decode cX8_outs 16 = .ok (.i2l, 1) := by decide +kernel
theorem dX8_outs_17 : decode cX8_outs 17 = .ok (.lconst 0, 1) := by decide +kernel
theorem dX8_outs_18 : decode cX8_outs 18 = .ok (.ldc2_w 186, 3) := by decide +kernel
theorem dX8_outs_21 : decode cX8_outs 21 = .ok (.invokestatic 147, 3) := by decide +kernel
theorem dX8_outs_24 : decode cX8_outs 24 = .ok (.ifCond .eq 16, 3) := by decide +kernel
theorem dX8_outs_27 : decode cX8_outs 27 = .ok (.iload 4, 2) := by decide +kernel
theorem dX8_outs_29 : decode cX8_outs 29 = .ok (.i2l, 1) := by decide +kernel
theorem dX8_outs_30 : decode cX8_outs 30 = .ok (.lconst 0, 1) := by decide +kernel
theorem dX8_outs_31 : decode cX8_outs 31 = .ok (.ldc2_w 203, 3) := by decide +kernel
theorem dX8_outs_34 : decode cX8_outs 34 = .ok (.invokestatic 147, 3) := by decide +kernel
theorem dX8_outs_37 : decode cX8_outs 37 = .ok (.ifCond .ne 5, 3) := by decide +kernel
theorem dX8_outs_40 : decode cX8_outs 40 = .ok (.iconst (-1), 1) := by decide +kernel
theorem dX8_outs_41 : decode cX8_outs 41 = .ok (.ireturn, 1) := by decide +kernel
theorem dX8_outs_42 : decode cX8_outs 42 = .ok (.iload_n 2, 1) := by decide +kernel
theorem dX8_outs_43 : decode cX8_outs 43 = .ok (.sipush 1000, 3) := by decide +kernel
theorem dX8_outs_46 : decode cX8_outs 46 = .ok (.irem, 1) := by decide +kernel
theorem dX8_outs_47 : decode cX8_outs 47 = .ok (.iload_n 2, 1) := by decide +kernel
theorem dX8_outs_48 : decode cX8_outs 48 = .ok (.sipush 1000, 3) := by decide +kernel
theorem dX8_outs_51 : decode cX8_outs 51 = .ok (.idiv, 1) := by decide +kernel
theorem dX8_outs_52 : decode cX8_outs 52 = .ok (.isub, 1) := by decide +kernel
theorem dX8_outs_53 : decode cX8_outs 53 = .ok (.istore 5, 2) := by decide +kernel
theorem dX8_outs_55 : decode cX8_outs 55 = .ok (.iload 5, 2) := by decide +kernel
theorem dX8_outs_57 : decode cX8_outs 57 = .ok (.i2l, 1) := by decide +kernel
theorem dX8_outs_58 : decode cX8_outs 58 = .ok (.lconst 1, 1) := by decide +kernel
theorem dX8_outs_59 : decode cX8_outs 59 = .ok (.ldc2_w 203, 3) := by decide +kernel
theorem dX8_outs_62 : decode cX8_outs 62 = .ok (.invokestatic 147, 3) := by decide +kernel
theorem dX8_outs_65 : decode cX8_outs 65 = .ok (.ifCond .ne 5, 3) := by decide +kernel
theorem dX8_outs_68 : decode cX8_outs 68 = .ok (.iconst (-1), 1) := by decide +kernel
theorem dX8_outs_69 : decode cX8_outs 69 = .ok (.ireturn, 1) := by decide +kernel
theorem dX8_outs_70 : decode cX8_outs 70 = .ok (.iconst 0, 1) := by decide +kernel
theorem dX8_outs_71 : decode cX8_outs 71 = .ok (.istore 6, 2) := by decide +kernel
theorem dX8_outs_73 : decode cX8_outs 73 = .ok (.iconst 0, 1) := by decide +kernel
theorem dX8_outs_74 : decode cX8_outs 74 = .ok (.istore 7, 2) := by decide +kernel
theorem dX8_outs_76 : decode cX8_outs 76 = .ok (.iload 7, 2) := by decide +kernel
theorem dX8_outs_78 : decode cX8_outs 78 = .ok (.sipush 4096, 3) := by decide +kernel
theorem dX8_outs_81 : decode cX8_outs 81 = .ok (.if_icmp .ge 96, 3) := by decide +kernel
theorem dX8_outs_84 : decode cX8_outs 84 = .ok (.iconst 0, 1) := by decide +kernel
theorem dX8_outs_85 : decode cX8_outs 85 = .ok (.istore 8, 2) := by decide +kernel
theorem dX8_outs_87 : decode cX8_outs 87 = .ok (.iconst (-1), 1) := by decide +kernel
theorem dX8_outs_88 : decode cX8_outs 88 = .ok (.istore 9, 2) := by decide +kernel
theorem dX8_outs_90 : decode cX8_outs 90 = .ok (.iconst 0, 1) := by decide +kernel
theorem dX8_outs_91 : decode cX8_outs 91 = .ok (.istore 10, 2) := by decide +kernel
theorem dX8_outs_93 : decode cX8_outs 93 = .ok (.iload 10, 2) := by decide +kernel
theorem dX8_outs_95 : decode cX8_outs 95 = .ok (.iload 5, 2) := by decide +kernel
theorem dX8_outs_97 : decode cX8_outs 97 = .ok (.if_icmp .gt 57, 3) := by decide +kernel
theorem dX8_outs_100 : decode cX8_outs 100 = .ok (.iload 9, 2) := by decide +kernel
theorem dX8_outs_102 : decode cX8_outs 102 = .ok (.iconst (-1), 1) := by decide +kernel
theorem dX8_outs_103 : decode cX8_outs 103 = .ok (.if_icmp .ne 51, 3) := by decide +kernel
theorem dX8_outs_106 : decode cX8_outs 106 = .ok (.aload_n 0, 1) := by decide +kernel
theorem dX8_outs_107 : decode cX8_outs 107 = .ok (.iload_n 1, 1) := by decide +kernel
theorem dX8_outs_108 : decode cX8_outs 108 = .ok (.iload 7, 2) := by decide +kernel
theorem dX8_outs_110 : decode cX8_outs 110 = .ok (.bipush 64, 2) := by decide +kernel
theorem dX8_outs_112 : decode cX8_outs 112 = .ok (.idiv, 1) := by decide +kernel
theorem dX8_outs_113 : decode cX8_outs 113 = .ok (.iload 7, 2) := by decide +kernel
theorem dX8_outs_115 : decode cX8_outs 115 = .ok (.bipush 64, 2) := by decide +kernel
theorem dX8_outs_117 : decode cX8_outs 117 = .ok (.irem, 1) := by decide +kernel
theorem dX8_outs_118 : decode cX8_outs 118 = .ok (.iload_n 3, 1) := by decide +kernel
theorem dX8_outs_119 : decode cX8_outs 119 = .ok (.iload 4, 2) := by decide +kernel
theorem dX8_outs_121 : decode cX8_outs 121 = .ok (.iload 10, 2) := by decide +kernel
theorem dX8_outs_123 : decode cX8_outs 123 = .ok (.imul, 1) := by decide +kernel
theorem dX8_outs_124 : decode cX8_outs 124 = .ok (.isub, 1) := by decide +kernel
theorem dX8_outs_125 : decode cX8_outs 125 = .ok (.invokevirtual 311, 3) := by decide +kernel
theorem dX8_outs_128 : decode cX8_outs 128 = .ok (.istore 11, 2) := by decide +kernel
theorem dX8_outs_130 : decode cX8_outs 130 = .ok (.iload 8, 2) := by decide +kernel
theorem dX8_outs_132 : decode cX8_outs 132 = .ok (.ifCond .eq 12, 3) := by decide +kernel
theorem dX8_outs_135 : decode cX8_outs 135 = .ok (.iload 11, 2) := by decide +kernel
theorem dX8_outs_137 : decode cX8_outs 137 = .ok (.ifCond .ne 7, 3) := by decide +kernel
theorem dX8_outs_140 : decode cX8_outs 140 = .ok (.iload 10, 2) := by decide +kernel
theorem dX8_outs_142 : decode cX8_outs 142 = .ok (.istore 9, 2) := by decide +kernel
theorem dX8_outs_144 : decode cX8_outs 144 = .ok (.iload 11, 2) := by decide +kernel
theorem dX8_outs_146 : decode cX8_outs 146 = .ok (.istore 8, 2) := by decide +kernel
theorem dX8_outs_148 : decode cX8_outs 148 = .ok (.iinc 10 1, 3) := by decide +kernel
theorem dX8_outs_151 : decode cX8_outs 151 = .ok (.goto (-58), 3) := by decide +kernel
theorem dX8_outs_154 : decode cX8_outs 154 = .ok (.iload 6, 2) := by decide +kernel
theorem dX8_outs_156 : decode cX8_outs 156 = .ok (.iload 9, 2) := by decide +kernel
theorem dX8_outs_158 : decode cX8_outs 158 = .ok (.iload 5, 2) := by decide +kernel
theorem dX8_outs_160 : decode cX8_outs 160 = .ok (.if_icmp .ne 7, 3) := by decide +kernel
theorem dX8_outs_163 : decode cX8_outs 163 = .ok (.iconst 1, 1) := by decide +kernel
theorem dX8_outs_164 : decode cX8_outs 164 = .ok (.goto 4, 3) := by decide +kernel
theorem dX8_outs_167 : decode cX8_outs 167 = .ok (.iconst 0, 1) := by decide +kernel
theorem dX8_outs_168 : decode cX8_outs 168 = .ok (.iadd, 1) := by decide +kernel
theorem dX8_outs_169 : decode cX8_outs 169 = .ok (.istore 6, 2) := by decide +kernel
theorem dX8_outs_171 : decode cX8_outs 171 = .ok (.iinc 7 1, 3) := by decide +kernel
theorem dX8_outs_174 : decode cX8_outs 174 = .ok (.goto (-98), 3) := by decide +kernel
theorem dX8_outs_177 : decode cX8_outs 177 = .ok (.iload 6, 2) := by decide +kernel
theorem dX8_outs_179 : decode cX8_outs 179 = .ok (.ireturn, 1) := by decide +kernel
set_option maxHeartbeats 4000000 in
set_option maxRecDepth 100000 in
theorem t_X8_outs {l : Launch} {g : zG} {d : Nat} {s : zS} (hR : zRok s) {p0 : Int32} {p1 : Int32} {p2 : Int32} {p3 : Int32} {K : Int32 → zS → Prop} (h : (zc l g d M_X8_isSeer [.ref 164, .int p0] s (zKz (fun b2 s1 => s1.2.2.1 = s.2.2.1 ∧ (if b2 = true then (zc l g d M_X8_areMinutes [.int p1] s1 (zKz (fun b4 s3 => s3.2.2.1 = s1.2.2.1 ∧ (if b4 = true then (if (zinr p2.toInt64 (0 : Int64) (255 : Int64)) = true then (if (zinr p3.toInt64 (0 : Int64) (20 : Int64)) = true then (∀ v5 : Int32, v5 = (p1 % (1000 : Int32)) - (p1 / (1000 : Int32)) → (if (zinr v5.toInt64 (1 : Int64) (20 : Int64)) = true then zt l g (d + 1) M_X8_outs 76 [.ref 164, .int p0, zJ, .int p2, .int p3, .int v5, .int (0 : Int32), .int (0 : Int32), zJ, zJ, zJ, zJ] [] s3 (zKi K) else K (-1 : Int32) s3)) else K (-1 : Int32) s3) else K (-1 : Int32) s3) else K (-1 : Int32) s3)))) else K (-1 : Int32) s1))))) : zc l g (d + 1) M_X8_outs [.ref 164, .int p0, .int p1, .int p2, .int p3] s (zKi K) := by
  refine zCall_of k_X8_outs (Nat.le_of_ble_eq_true rfl) (Nat.le_refl _) (fun _ => ?_)
  show zt l g (d + 1) M_X8_outs 0 [.ref 164, .int p0, .int p1, .int p2, .int p3, zJ, zJ, zJ, zJ, zJ, zJ, zJ] [] s (zKi K)
  refine z_aload_n (i := 0) dX8_outs_0 rfl rfl rfl ?_
  refine z_iload_n (i := 1) dX8_outs_1 rfl rfl rfl ?_
  refine z_callV k_X8_isSeer m_X8_252 (zRec_of i_164) rfl h rfl (Nat.le_of_ble_eq_true rfl) dX8_outs_2 zy200 rfl ?_
  rintro v s1 ⟨b2, rfl, hRs1, h⟩
  show zt l g (d + 1) M_X8_outs 5 [.ref 164, .int p0, .int p1, .int p2, .int p3, zJ, zJ, zJ, zJ, zJ, zJ, zJ] [.int (zb b2)] s1 _
  refine z_ifb_eq (pt := 40) dX8_outs_5 (by decide) rfl (fun c => ?_) (fun c => ?_)
  · have h := zif h (by rw [c]; exact Bool.false_ne_true)
    refine z_iconst (v := (-1 : Int32)) dX8_outs_40 (by decide) rfl ?_
    exact z_ret (some (.int (-1 : Int32))) (Or.inr (Or.inl ⟨_, _, rfl, rfl, rfl, dX8_outs_41⟩)) zN200 ⟨_, rfl, h⟩
  · have h := zit h c
    refine z_iload_n (i := 2) dX8_outs_8 rfl rfl rfl ?_
    refine z_callS (as := [.int p1]) k_X8_areMinutes m_X8_198 rfl h rfl (Nat.le_of_ble_eq_true rfl) dX8_outs_9 zy200 rfl ?_
    rintro v s3 ⟨b4, rfl, hRs3, h⟩
    show zt l g (d + 1) M_X8_outs 12 [.ref 164, .int p0, .int p1, .int p2, .int p3, zJ, zJ, zJ, zJ, zJ, zJ, zJ] [.int (zb b4)] s3 _
    refine z_ifb_eq (pt := 40) dX8_outs_12 (by decide) rfl (fun c => ?_) (fun c => ?_)
    · have h := zif h (by rw [c]; exact Bool.false_ne_true)
      refine z_iconst (v := (-1 : Int32)) dX8_outs_40 (by decide) rfl ?_
      exact z_ret (some (.int (-1 : Int32))) (Or.inr (Or.inl ⟨_, _, rfl, rfl, rfl, dX8_outs_41⟩)) zN200 ⟨_, rfl, h⟩
    · have h := zit h c
      refine z_iload_n (i := 3) dX8_outs_15 rfl rfl rfl ?_
      refine z_i2l dX8_outs_16 rfl ?_
      refine z_lconst (v := (0 : Int64)) dX8_outs_17 (by decide) rfl ?_
      refine z_ldc2 (v := (255 : Int64)) q_X8_186 dX8_outs_18 rfl ?_
      refine z_in m_X8_147 dX8_outs_21 (Nat.le_of_ble_eq_true rfl) rfl ?_
      refine z_ifb_eq (pt := 40) dX8_outs_24 (by decide) rfl (fun c => ?_) (fun c => ?_)
      · have h := zif h (by rw [c]; exact Bool.false_ne_true)
        refine z_iconst (v := (-1 : Int32)) dX8_outs_40 (by decide) rfl ?_
        exact z_ret (some (.int (-1 : Int32))) (Or.inr (Or.inl ⟨_, _, rfl, rfl, rfl, dX8_outs_41⟩)) zN200 ⟨_, rfl, h⟩
      · have h := zit h c
        refine z_iload dX8_outs_27 rfl rfl ?_
        refine z_i2l dX8_outs_29 rfl ?_
        refine z_lconst (v := (0 : Int64)) dX8_outs_30 (by decide) rfl ?_
        refine z_ldc2 (v := (20 : Int64)) q_X8_203 dX8_outs_31 rfl ?_
        refine z_in m_X8_147 dX8_outs_34 (Nat.le_of_ble_eq_true rfl) rfl ?_
        refine z_ifb_ne (pt := 42) dX8_outs_37 (by decide) rfl (fun c => ?_) (fun c => ?_)
        · have h := zit h c
          refine z_iload_n (i := 2) dX8_outs_42 rfl rfl rfl ?_
          refine z_sipush (v := (1000 : Int32)) dX8_outs_43 (by decide) rfl ?_
          refine z_irem dX8_outs_46 (by decide) rfl ?_
          refine z_iload_n (i := 2) dX8_outs_47 rfl rfl rfl ?_
          refine z_sipush (v := (1000 : Int32)) dX8_outs_48 (by decide) rfl ?_
          refine z_idiv dX8_outs_51 (by decide) rfl ?_
          refine z_isub dX8_outs_52 rfl ?_
          refine z_istore dX8_outs_53 (by decide) (zokd rfl) rfl ?_
          obtain ⟨v5, ev5⟩ : ∃ x : Int32, x = (p1 % (1000 : Int32)) - (p1 / (1000 : Int32)) := ⟨_, rfl⟩
          rw [← ev5]
          have h := h v5 ev5
          show zt l g (d + 1) M_X8_outs 55 [.ref 164, .int p0, .int p1, .int p2, .int p3, .int v5, zJ, zJ, zJ, zJ, zJ, zJ] [] s3 _
          refine z_iload dX8_outs_55 rfl rfl ?_
          refine z_i2l dX8_outs_57 rfl ?_
          refine z_lconst (v := (1 : Int64)) dX8_outs_58 (by decide) rfl ?_
          refine z_ldc2 (v := (20 : Int64)) q_X8_203 dX8_outs_59 rfl ?_
          refine z_in m_X8_147 dX8_outs_62 (Nat.le_of_ble_eq_true rfl) rfl ?_
          refine z_ifb_ne (pt := 70) dX8_outs_65 (by decide) rfl (fun c => ?_) (fun c => ?_)
          · have h := zit h c
            refine z_iconst (v := (0 : Int32)) dX8_outs_70 (by decide) rfl ?_
            refine z_istore dX8_outs_71 (by decide) (zokd rfl) rfl ?_
            show zt l g (d + 1) M_X8_outs 73 [.ref 164, .int p0, .int p1, .int p2, .int p3, .int v5, .int (0 : Int32), zJ, zJ, zJ, zJ, zJ] [] s3 _
            refine z_iconst (v := (0 : Int32)) dX8_outs_73 (by decide) rfl ?_
            refine z_istore dX8_outs_74 (by decide) (zokd rfl) rfl ?_
            show zt l g (d + 1) M_X8_outs 76 [.ref 164, .int p0, .int p1, .int p2, .int p3, .int v5, .int (0 : Int32), .int (0 : Int32), zJ, zJ, zJ, zJ] [] s3 _
            refine z_wk (ls' := [.ref 164, .int p0, zJ, .int p2, .int p3, .int v5, .int (0 : Int32), .int (0 : Int32), zJ, zJ, zJ, zJ]) ⟨Or.inr rfl, Or.inr rfl, Or.inl rfl, Or.inr rfl, Or.inr rfl, Or.inr rfl, Or.inr rfl, Or.inr rfl, Or.inr rfl, Or.inr rfl, Or.inr rfl, Or.inr rfl, trivial⟩ ?_
            exact h
          · have h := zif h (by rw [c]; exact Bool.false_ne_true)
            refine z_iconst (v := (-1 : Int32)) dX8_outs_68 (by decide) rfl ?_
            exact z_ret (some (.int (-1 : Int32))) (Or.inr (Or.inl ⟨_, _, rfl, rfl, rfl, dX8_outs_69⟩)) zN200 ⟨_, rfl, h⟩
        · have h := zif h (by rw [c]; exact Bool.false_ne_true)
          refine z_iconst (v := (-1 : Int32)) dX8_outs_40 (by decide) rfl ?_
          exact z_ret (some (.int (-1 : Int32))) (Or.inr (Or.inl ⟨_, _, rfl, rfl, rfl, dX8_outs_41⟩)) zN200 ⟨_, rfl, h⟩
set_option maxHeartbeats 4000000 in
set_option maxRecDepth 100000 in
theorem t_X8_outs_76 {l : Launch} {g : zG} {d : Nat} {s : zS} (hR : zRok s) {x1 : Int32} {x3 : Int32} {x4 : Int32} {x5 : Int32} {x6 : Int32} {x7 : Int32} {K : Int32 → zS → Prop} (h : (if (4096 : Int32) ≤ x7 then K x6 s else zt l g (d + 1) M_X8_outs 93 [.ref 164, .int x1, zJ, .int x3, .int x4, .int x5, .int x6, .int x7, .int (0 : Int32), .int (-1 : Int32), .int (0 : Int32), zJ] [] s (zKi K))) : zt l g (d + 1) M_X8_outs 76 [.ref 164, .int x1, zJ, .int x3, .int x4, .int x5, .int x6, .int x7, zJ, zJ, zJ, zJ] [] s (zKi K) := by
  refine z_iload dX8_outs_76 rfl rfl ?_
  refine z_sipush (v := (4096 : Int32)) dX8_outs_78 (by decide) rfl ?_
  refine z_icmp_ge (pt := 177) dX8_outs_81 (by decide) rfl (fun c => ?_) (fun c => ?_)
  · have h := zit h c
    refine z_iload dX8_outs_177 rfl rfl ?_
    exact z_ret (some (.int x6)) (Or.inr (Or.inl ⟨_, _, rfl, rfl, rfl, dX8_outs_179⟩)) zN200 ⟨_, rfl, h⟩
  · have h := zif h c
    refine z_iconst (v := (0 : Int32)) dX8_outs_84 (by decide) rfl ?_
    refine z_istore dX8_outs_85 (by decide) (zokd rfl) rfl ?_
    show zt l g (d + 1) M_X8_outs 87 [.ref 164, .int x1, zJ, .int x3, .int x4, .int x5, .int x6, .int x7, .int (0 : Int32), zJ, zJ, zJ] [] s _
    refine z_iconst (v := (-1 : Int32)) dX8_outs_87 (by decide) rfl ?_
    refine z_istore dX8_outs_88 (by decide) (zokd rfl) rfl ?_
    show zt l g (d + 1) M_X8_outs 90 [.ref 164, .int x1, zJ, .int x3, .int x4, .int x5, .int x6, .int x7, .int (0 : Int32), .int (-1 : Int32), zJ, zJ] [] s _
    refine z_iconst (v := (0 : Int32)) dX8_outs_90 (by decide) rfl ?_
    refine z_istore dX8_outs_91 (by decide) (zokd rfl) rfl ?_
    show zt l g (d + 1) M_X8_outs 93 [.ref 164, .int x1, zJ, .int x3, .int x4, .int x5, .int x6, .int x7, .int (0 : Int32), .int (-1 : Int32), .int (0 : Int32), zJ] [] s _
    exact h
set_option maxHeartbeats 4000000 in
set_option maxRecDepth 100000 in
theorem t_X8_outs_93 {l : Launch} {g : zG} {d : Nat} {s : zS} (hR : zRok s) {x1 : Int32} {x3 : Int32} {x4 : Int32} {x5 : Int32} {x6 : Int32} {x7 : Int32} {x8 : Int32} {x9 : Int32} {x10 : Int32} {K : Int32 → zS → Prop} (h : (if x5 < x10 then (if x9 = x5 then zt l g (d + 1) M_X8_outs 76 [.ref 164, .int x1, zJ, .int x3, .int x4, .int x5, .int (x6 + (1 : Int32)), .int (x7 + (1 : Int32)), zJ, zJ, zJ, zJ] [] s (zKi K) else zt l g (d + 1) M_X8_outs 76 [.ref 164, .int x1, zJ, .int x3, .int x4, .int x5, .int (x6 + (0 : Int32)), .int (x7 + (1 : Int32)), zJ, zJ, zJ, zJ] [] s (zKi K)) else (if x9 = (-1 : Int32) then (zc l g d M_X8_isUp [.ref 164, .int x1, .int (x7 / (64 : Int32)), .int (x7 % (64 : Int32)), .int (x3 - (x4 * x10))] s (zKz (fun b2 s1 => s1.2.2.1 = s.2.2.1 ∧ (if x8 = 0 then zt l g (d + 1) M_X8_outs 93 [.ref 164, .int x1, zJ, .int x3, .int x4, .int x5, .int x6, .int x7, .int (zb b2), .int x9, .int (x10 + (1 : Int32)), zJ] [] s1 (zKi K) else (if b2 = true then zt l g (d + 1) M_X8_outs 93 [.ref 164, .int x1, zJ, .int x3, .int x4, .int x5, .int x6, .int x7, .int (zb b2), .int x9, .int (x10 + (1 : Int32)), zJ] [] s1 (zKi K) else zt l g (d + 1) M_X8_outs 93 [.ref 164, .int x1, zJ, .int x3, .int x4, .int x5, .int x6, .int x7, .int (zb b2), .int x10, .int (x10 + (1 : Int32)), zJ] [] s1 (zKi K)))))) else (if x9 = x5 then zt l g (d + 1) M_X8_outs 76 [.ref 164, .int x1, zJ, .int x3, .int x4, .int x5, .int (x6 + (1 : Int32)), .int (x7 + (1 : Int32)), zJ, zJ, zJ, zJ] [] s (zKi K) else zt l g (d + 1) M_X8_outs 76 [.ref 164, .int x1, zJ, .int x3, .int x4, .int x5, .int (x6 + (0 : Int32)), .int (x7 + (1 : Int32)), zJ, zJ, zJ, zJ] [] s (zKi K))))) : zt l g (d + 1) M_X8_outs 93 [.ref 164, .int x1, zJ, .int x3, .int x4, .int x5, .int x6, .int x7, .int x8, .int x9, .int x10, zJ] [] s (zKi K) := by
  refine z_iload dX8_outs_93 rfl rfl ?_
  refine z_iload dX8_outs_95 rfl rfl ?_
  refine z_icmp_gt (pt := 154) dX8_outs_97 (by decide) rfl (fun c => ?_) (fun c => ?_)
  · have h := zit h c
    refine z_iload dX8_outs_154 rfl rfl ?_
    refine z_iload dX8_outs_156 rfl rfl ?_
    refine z_iload dX8_outs_158 rfl rfl ?_
    refine z_icmp_ne (pt := 167) dX8_outs_160 (by decide) rfl (fun c => ?_) (fun c => ?_)
    · have h := zif h c
      refine z_iconst (v := (0 : Int32)) dX8_outs_167 (by decide) rfl ?_
      refine z_iadd dX8_outs_168 rfl ?_
      refine z_istore dX8_outs_169 (by decide) (zokd rfl) rfl ?_
      show zt l g (d + 1) M_X8_outs 171 [.ref 164, .int x1, zJ, .int x3, .int x4, .int x5, .int (x6 + (0 : Int32)), .int x7, .int x8, .int x9, .int x10, zJ] [] s _
      refine z_iinc (v := x7 + (1 : Int32)) dX8_outs_171 rfl rfl (by decide) (zokd rfl) rfl ?_
      show zt l g (d + 1) M_X8_outs 174 [.ref 164, .int x1, zJ, .int x3, .int x4, .int x5, .int (x6 + (0 : Int32)), .int (x7 + (1 : Int32)), .int x8, .int x9, .int x10, zJ] [] s _
      refine z_goto (pn := 76) dX8_outs_174 (by decide) ?_
      refine z_wk (ls' := [.ref 164, .int x1, zJ, .int x3, .int x4, .int x5, .int (x6 + (0 : Int32)), .int (x7 + (1 : Int32)), zJ, zJ, zJ, zJ]) ⟨Or.inr rfl, Or.inr rfl, Or.inr rfl, Or.inr rfl, Or.inr rfl, Or.inr rfl, Or.inr rfl, Or.inr rfl, Or.inl rfl, Or.inl rfl, Or.inl rfl, Or.inr rfl, trivial⟩ ?_
      exact h
    · have h := zit h c
      refine z_iconst (v := (1 : Int32)) dX8_outs_163 (by decide) rfl ?_
      refine z_goto (pn := 168) dX8_outs_164 (by decide) ?_
      refine z_iadd dX8_outs_168 rfl ?_
      refine z_istore dX8_outs_169 (by decide) (zokd rfl) rfl ?_
      show zt l g (d + 1) M_X8_outs 171 [.ref 164, .int x1, zJ, .int x3, .int x4, .int x5, .int (x6 + (1 : Int32)), .int x7, .int x8, .int x9, .int x10, zJ] [] s _
      refine z_iinc (v := x7 + (1 : Int32)) dX8_outs_171 rfl rfl (by decide) (zokd rfl) rfl ?_
      show zt l g (d + 1) M_X8_outs 174 [.ref 164, .int x1, zJ, .int x3, .int x4, .int x5, .int (x6 + (1 : Int32)), .int (x7 + (1 : Int32)), .int x8, .int x9, .int x10, zJ] [] s _
      refine z_goto (pn := 76) dX8_outs_174 (by decide) ?_
      refine z_wk (ls' := [.ref 164, .int x1, zJ, .int x3, .int x4, .int x5, .int (x6 + (1 : Int32)), .int (x7 + (1 : Int32)), zJ, zJ, zJ, zJ]) ⟨Or.inr rfl, Or.inr rfl, Or.inr rfl, Or.inr rfl, Or.inr rfl, Or.inr rfl, Or.inr rfl, Or.inr rfl, Or.inl rfl, Or.inl rfl, Or.inl rfl, Or.inr rfl, trivial⟩ ?_
      exact h
  · have h := zif h c
    refine z_iload dX8_outs_100 rfl rfl ?_
    refine z_iconst (v := (-1 : Int32)) dX8_outs_102 (by decide) rfl ?_
    refine z_icmp_ne (pt := 154) dX8_outs_103 (by decide) rfl (fun c => ?_) (fun c => ?_)
    · have h := zif h c
      refine z_iload dX8_outs_154 rfl rfl ?_
      refine z_iload dX8_outs_156 rfl rfl ?_
      refine z_iload dX8_outs_158 rfl rfl ?_
      refine z_icmp_ne (pt := 167) dX8_outs_160 (by decide) rfl (fun c => ?_) (fun c => ?_)
      · have h := zif h c
        refine z_iconst (v := (0 : Int32)) dX8_outs_167 (by decide) rfl ?_
        refine z_iadd dX8_outs_168 rfl ?_
        refine z_istore dX8_outs_169 (by decide) (zokd rfl) rfl ?_
        show zt l g (d + 1) M_X8_outs 171 [.ref 164, .int x1, zJ, .int x3, .int x4, .int x5, .int (x6 + (0 : Int32)), .int x7, .int x8, .int x9, .int x10, zJ] [] s _
        refine z_iinc (v := x7 + (1 : Int32)) dX8_outs_171 rfl rfl (by decide) (zokd rfl) rfl ?_
        show zt l g (d + 1) M_X8_outs 174 [.ref 164, .int x1, zJ, .int x3, .int x4, .int x5, .int (x6 + (0 : Int32)), .int (x7 + (1 : Int32)), .int x8, .int x9, .int x10, zJ] [] s _
        refine z_goto (pn := 76) dX8_outs_174 (by decide) ?_
        refine z_wk (ls' := [.ref 164, .int x1, zJ, .int x3, .int x4, .int x5, .int (x6 + (0 : Int32)), .int (x7 + (1 : Int32)), zJ, zJ, zJ, zJ]) ⟨Or.inr rfl, Or.inr rfl, Or.inr rfl, Or.inr rfl, Or.inr rfl, Or.inr rfl, Or.inr rfl, Or.inr rfl, Or.inl rfl, Or.inl rfl, Or.inl rfl, Or.inr rfl, trivial⟩ ?_
        exact h
      · have h := zit h c
        refine z_iconst (v := (1 : Int32)) dX8_outs_163 (by decide) rfl ?_
        refine z_goto (pn := 168) dX8_outs_164 (by decide) ?_
        refine z_iadd dX8_outs_168 rfl ?_
        refine z_istore dX8_outs_169 (by decide) (zokd rfl) rfl ?_
        show zt l g (d + 1) M_X8_outs 171 [.ref 164, .int x1, zJ, .int x3, .int x4, .int x5, .int (x6 + (1 : Int32)), .int x7, .int x8, .int x9, .int x10, zJ] [] s _
        refine z_iinc (v := x7 + (1 : Int32)) dX8_outs_171 rfl rfl (by decide) (zokd rfl) rfl ?_
        show zt l g (d + 1) M_X8_outs 174 [.ref 164, .int x1, zJ, .int x3, .int x4, .int x5, .int (x6 + (1 : Int32)), .int (x7 + (1 : Int32)), .int x8, .int x9, .int x10, zJ] [] s _
        refine z_goto (pn := 76) dX8_outs_174 (by decide) ?_
        refine z_wk (ls' := [.ref 164, .int x1, zJ, .int x3, .int x4, .int x5, .int (x6 + (1 : Int32)), .int (x7 + (1 : Int32)), zJ, zJ, zJ, zJ]) ⟨Or.inr rfl, Or.inr rfl, Or.inr rfl, Or.inr rfl, Or.inr rfl, Or.inr rfl, Or.inr rfl, Or.inr rfl, Or.inl rfl, Or.inl rfl, Or.inl rfl, Or.inr rfl, trivial⟩ ?_
        exact h
    · have h := zit h c
      refine z_aload_n (i := 0) dX8_outs_106 rfl rfl rfl ?_
      refine z_iload_n (i := 1) dX8_outs_107 rfl rfl rfl ?_
      refine z_iload dX8_outs_108 rfl rfl ?_
      refine z_bipush (v := (64 : Int32)) dX8_outs_110 (by decide) rfl ?_
      refine z_idiv dX8_outs_112 (by decide) rfl ?_
      refine z_iload dX8_outs_113 rfl rfl ?_
      refine z_bipush (v := (64 : Int32)) dX8_outs_115 (by decide) rfl ?_
      refine z_irem dX8_outs_117 (by decide) rfl ?_
      refine z_iload_n (i := 3) dX8_outs_118 rfl rfl rfl ?_
      refine z_iload dX8_outs_119 rfl rfl ?_
      refine z_iload dX8_outs_121 rfl rfl ?_
      refine z_imul dX8_outs_123 rfl ?_
      refine z_isub dX8_outs_124 rfl ?_
      refine z_callV k_X8_isUp m_X8_311 (zRec_of i_164) rfl h rfl (Nat.le_of_ble_eq_true rfl) dX8_outs_125 zy200 rfl ?_
      rintro v s1 ⟨b2, rfl, hRs1, h⟩
      show zt l g (d + 1) M_X8_outs 128 [.ref 164, .int x1, zJ, .int x3, .int x4, .int x5, .int x6, .int x7, .int x8, .int x9, .int x10, zJ] [.int (zb b2)] s1 _
      refine z_istore dX8_outs_128 (by decide) (zokd rfl) rfl ?_
      show zt l g (d + 1) M_X8_outs 130 [.ref 164, .int x1, zJ, .int x3, .int x4, .int x5, .int x6, .int x7, .int x8, .int x9, .int x10, .int (zb b2)] [] s1 _
      refine z_iload dX8_outs_130 rfl rfl ?_
      refine z_if_eq (pt := 144) dX8_outs_132 (by decide) rfl (fun c => ?_) (fun c => ?_)
      · have h := zit h c
        refine z_iload dX8_outs_144 rfl rfl ?_
        refine z_istore dX8_outs_146 (by decide) (zokd rfl) rfl ?_
        show zt l g (d + 1) M_X8_outs 148 [.ref 164, .int x1, zJ, .int x3, .int x4, .int x5, .int x6, .int x7, .int (zb b2), .int x9, .int x10, .int (zb b2)] [] s1 _
        refine z_iinc (v := x10 + (1 : Int32)) dX8_outs_148 rfl rfl (by decide) (zokd rfl) rfl ?_
        show zt l g (d + 1) M_X8_outs 151 [.ref 164, .int x1, zJ, .int x3, .int x4, .int x5, .int x6, .int x7, .int (zb b2), .int x9, .int (x10 + (1 : Int32)), .int (zb b2)] [] s1 _
        refine z_goto (pn := 93) dX8_outs_151 (by decide) ?_
        refine z_wk (ls' := [.ref 164, .int x1, zJ, .int x3, .int x4, .int x5, .int x6, .int x7, .int (zb b2), .int x9, .int (x10 + (1 : Int32)), zJ]) ⟨Or.inr rfl, Or.inr rfl, Or.inr rfl, Or.inr rfl, Or.inr rfl, Or.inr rfl, Or.inr rfl, Or.inr rfl, Or.inr rfl, Or.inr rfl, Or.inr rfl, Or.inl rfl, trivial⟩ ?_
        exact h
      · have h := zif h c
        refine z_iload dX8_outs_135 rfl rfl ?_
        refine z_ifb_ne (pt := 144) dX8_outs_137 (by decide) rfl (fun c => ?_) (fun c => ?_)
        · have h := zit h c
          refine z_iload dX8_outs_144 rfl rfl ?_
          refine z_istore dX8_outs_146 (by decide) (zokd rfl) rfl ?_
          show zt l g (d + 1) M_X8_outs 148 [.ref 164, .int x1, zJ, .int x3, .int x4, .int x5, .int x6, .int x7, .int (zb b2), .int x9, .int x10, .int (zb b2)] [] s1 _
          refine z_iinc (v := x10 + (1 : Int32)) dX8_outs_148 rfl rfl (by decide) (zokd rfl) rfl ?_
          show zt l g (d + 1) M_X8_outs 151 [.ref 164, .int x1, zJ, .int x3, .int x4, .int x5, .int x6, .int x7, .int (zb b2), .int x9, .int (x10 + (1 : Int32)), .int (zb b2)] [] s1 _
          refine z_goto (pn := 93) dX8_outs_151 (by decide) ?_
          refine z_wk (ls' := [.ref 164, .int x1, zJ, .int x3, .int x4, .int x5, .int x6, .int x7, .int (zb b2), .int x9, .int (x10 + (1 : Int32)), zJ]) ⟨Or.inr rfl, Or.inr rfl, Or.inr rfl, Or.inr rfl, Or.inr rfl, Or.inr rfl, Or.inr rfl, Or.inr rfl, Or.inr rfl, Or.inr rfl, Or.inr rfl, Or.inl rfl, trivial⟩ ?_
          exact h
        · have h := zif h (by rw [c]; exact Bool.false_ne_true)
          refine z_iload dX8_outs_140 rfl rfl ?_
          refine z_istore dX8_outs_142 (by decide) (zokd rfl) rfl ?_
          show zt l g (d + 1) M_X8_outs 144 [.ref 164, .int x1, zJ, .int x3, .int x4, .int x5, .int x6, .int x7, .int x8, .int x10, .int x10, .int (zb b2)] [] s1 _
          refine z_iload dX8_outs_144 rfl rfl ?_
          refine z_istore dX8_outs_146 (by decide) (zokd rfl) rfl ?_
          show zt l g (d + 1) M_X8_outs 148 [.ref 164, .int x1, zJ, .int x3, .int x4, .int x5, .int x6, .int x7, .int (zb b2), .int x10, .int x10, .int (zb b2)] [] s1 _
          refine z_iinc (v := x10 + (1 : Int32)) dX8_outs_148 rfl rfl (by decide) (zokd rfl) rfl ?_
          show zt l g (d + 1) M_X8_outs 151 [.ref 164, .int x1, zJ, .int x3, .int x4, .int x5, .int x6, .int x7, .int (zb b2), .int x10, .int (x10 + (1 : Int32)), .int (zb b2)] [] s1 _
          refine z_goto (pn := 93) dX8_outs_151 (by decide) ?_
          refine z_wk (ls' := [.ref 164, .int x1, zJ, .int x3, .int x4, .int x5, .int x6, .int x7, .int (zb b2), .int x10, .int (x10 + (1 : Int32)), zJ]) ⟨Or.inr rfl, Or.inr rfl, Or.inr rfl, Or.inr rfl, Or.inr rfl, Or.inr rfl, Or.inr rfl, Or.inr rfl, Or.inr rfl, Or.inr rfl, Or.inr rfl, Or.inl rfl, trivial⟩ ?_
          exact h
theorem dX8_size_0 : decode cX8_size 0 = .ok (.aload_n 0, 1) := by decide +kernel
theorem dX8_size_1 : decode cX8_size 1 = .ok (.iload_n 1, 1) := by decide +kernel
theorem dX8_size_2 : decode cX8_size 2 = .ok (.invokevirtual 277, 3) := by decide +kernel
theorem dX8_size_5 : decode cX8_size 5 = .ok (.ifCond .eq 61, 3) := by decide +kernel
theorem dX8_size_8 : decode cX8_size 8 = .ok (.aload_n 0, 1) := by decide +kernel
theorem dX8_size_9 : decode cX8_size 9 = .ok (.iload_n 2, 1) := by decide +kernel
theorem dX8_size_10 : decode cX8_size 10 = .ok (.invokevirtual 219, 3) := by decide +kernel
theorem dX8_size_13 : decode cX8_size 13 = .ok (.ifCond .eq 53, 3) := by decide +kernel
theorem dX8_size_16 : decode cX8_size 16 = .ok (.iload_n 3, 1) := by decide +kernel
theorem dX8_size_17 : decode cX8_size 17 = .ok (.i2l, 1) := by decide +kernel
theorem dX8_size_18 : decode cX8_size 18 = .ok (.lconst 1, 1) := by decide +kernel
theorem dX8_size_19 : decode cX8_size 19 = .ok (.ldc2_w 315, 3) := by decide +kernel
theorem dX8_size_22 : decode cX8_size 22 = .ok (.invokestatic 147, 3) := by decide +kernel
theorem dX8_size_25 : decode cX8_size 25 = .ok (.ifCond .eq 41, 3) := by decide +kernel
theorem dX8_size_28 : decode cX8_size 28 = .ok (.iload 4, 2) := by decide +kernel
theorem dX8_size_30 : decode cX8_size 30 = .ok (.i2l, 1) := by decide +kernel
theorem dX8_size_31 : decode cX8_size 31 = .ok (.lconst 1, 1) := by decide +kernel
theorem dX8_size_32 : decode cX8_size 32 = .ok (.ldc2_w 315, 3) := by decide +kernel
theorem dX8_size_35 : decode cX8_size 35 = .ok (.invokestatic 147, 3) := by decide +kernel
theorem dX8_size_38 : decode cX8_size 38 = .ok (.ifCond .eq 28, 3) := by decide +kernel
theorem dX8_size_41 : decode cX8_size 41 = .ok (.aload_n 0, 1) := by decide +kernel
theorem dX8_size_42 : decode cX8_size 42 = .ok (.getfield 31, 3) := by decide +kernel
theorem dX8_size_45 : decode cX8_size 45 = .ok (.iload_n 2, 1) := by decide +kernel
theorem dX8_size_46 : decode cX8_size 46 = .ok (.iaload, 1) := by decide +kernel
theorem dX8_size_47 : decode cX8_size 47 = .ok (.ifCond .eq 19, 3) := by decide +kernel
theorem dX8_size_50 : decode cX8_size 50 = .ok (.aload_n 0, 1) := by decide +kernel
theorem dX8_size_51 : decode cX8_size 51 = .ok (.iload_n 2, 1) := by decide +kernel
theorem dX8_size_52 : decode cX8_size 52 = .ok (.aload_n 0, 1) := by decide +kernel
theorem dX8_size_53 : decode cX8_size 53 = .ok (.getfield 63, 3) := by decide +kernel
theorem dX8_size_56 : decode cX8_size 56 = .ok (.iload_n 1, 1) := by decide +kernel
theorem dX8_size_57 : decode cX8_size 57 = .ok (.aaload, 1) := by decide +kernel
theorem dX8_size_58 : decode cX8_size 58 = .ok (.iconst 1, 1) := by decide +kernel
theorem dX8_size_59 : decode cX8_size 59 = .ok (.iaload, 1) := by decide +kernel
theorem dX8_size_60 : decode cX8_size 60 = .ok (.invokevirtual 225, 3) := by decide +kernel
theorem dX8_size_63 : decode cX8_size 63 = .ok (.ifCond .ne 5, 3) := by decide +kernel
theorem dX8_size_66 : decode cX8_size 66 = .ok (.iconst (-1), 1) := by decide +kernel
theorem dX8_size_67 : decode cX8_size 67 = .ok (.ireturn, 1) := by decide +kernel
theorem dX8_size_68 : decode cX8_size 68 = .ok (.aload_n 0, 1) := by decide +kernel
theorem dX8_size_69 : decode cX8_size 69 = .ok (.getfield 63, 3) := by decide +kernel
theorem dX8_size_72 : decode cX8_size 72 = .ok (.iload_n 1, 1) := by decide +kernel
theorem dX8_size_73 : decode cX8_size 73 = .ok (.aaload, 1) := by decide +kernel
theorem dX8_size_74 : decode cX8_size 74 = .ok (.iconst 0, 1) := by decide +kernel
theorem dX8_size_75 : decode cX8_size 75 = .ok (.iaload, 1) := by decide +kernel
theorem dX8_size_76 : decode cX8_size 76 = .ok (.istore 5, 2) := by decide +kernel
theorem dX8_size_78 : decode cX8_size 78 = .ok (.iload_n 3, 1) := by decide +kernel
theorem dX8_size_79 : decode cX8_size 79 = .ok (.aload_n 0, 1) := by decide +kernel
theorem dX8_size_80 : decode cX8_size 80 = .ok (.getfield 207, 3) := by decide +kernel
theorem dX8_size_83 : decode cX8_size 83 = .ok (.aload_n 0, 1) := by decide +kernel
theorem dX8_size_84 : decode cX8_size 84 = .ok (.getfield 25, 3) := by decide +kernel
theorem dX8_size_87 : decode cX8_size 87 = .ok (.iload 5, 2) := by decide +kernel
theorem dX8_size_89 : decode cX8_size 89 = .ok (.iaload, 1) := by decide +kernel
theorem dX8_size_90 : decode cX8_size 90 = .ok (.isub, 1) := by decide +kernel
theorem dX8_size_91 : decode cX8_size 91 = .ok (.invokestatic 229, 3) := by decide +kernel
theorem dX8_size_94 : decode cX8_size 94 = .ok (.aload_n 0, 1) := by decide +kernel
theorem dX8_size_95 : decode cX8_size 95 = .ok (.getfield 210, 3) := by decide +kernel
theorem dX8_size_98 : decode cX8_size 98 = .ok (.aload_n 0, 1) := by decide +kernel
theorem dX8_size_99 : decode cX8_size 99 = .ok (.getfield 28, 3) := by decide +kernel
theorem dX8_size_102 : decode cX8_size 102 = .ok (.iload 5, 2) := by decide +kernel
theorem dX8_size_104 : decode cX8_size 104 = .ok (.iaload, 1) := by decide +kernel
theorem dX8_size_105 : decode cX8_size 105 = .ok (.isub, 1) := by decide +kernel
theorem dX8_size_106 : decode cX8_size 106 = .ok (.invokestatic 229, 3) := by decide +kernel
theorem dX8_size_109 : decode cX8_size 109 = .ok (.iadd, 1) := by decide +kernel
theorem dX8_size_110 : decode cX8_size 110 = .ok (.imul, 1) := by decide +kernel
theorem dX8_size_111 : decode cX8_size 111 = .ok (.iload 4, 2) := by decide +kernel
theorem dX8_size_113 : decode cX8_size 113 = .ok (.idiv, 1) := by decide +kernel
theorem dX8_size_114 : decode cX8_size 114 = .ok (.ireturn, 1) := by decide +kernel
set_option maxHeartbeats 4000000 in
set_option maxRecDepth 100000 in
theorem t_X8_size {l : Launch} {g : zG} {d : Nat} {s : zS} (hR : zRok s) {p0 : Int32} {p1 : Int32} {p2 : Int32} {p3 : Int32} {K : Int32 → zS → Prop} (h : (zc l g d M_X8_isTelling [.ref 164, .int p0] s (zKz (fun b2 s1 => s1.2.2.1 = s.2.2.1 ∧ (if b2 = true then (zc l g d M_X8_isThing [.ref 164, .int p1] s1 (zKz (fun b4 s3 => s3.2.2.1 = s1.2.2.1 ∧ (if b4 = true then (if (zinr p2.toInt64 (1 : Int64) (10000 : Int64)) = true then (if (zinr p3.toInt64 (1 : Int64) (10000 : Int64)) = true then (vp_in p1 12 ∧ (if (s3.1 172 p1.toNatClampNeg) = 0 then K (-1 : Int32) s3 else (vp_in p0 60 ∧ (zc l g d M_X8_isAt [.ref 164, .int p1, .int (s3.1 (183 + p0.toNatClampNeg) 1)] s3 (zKz (fun b8 s7 => s7.2.2.1 = s3.2.2.1 ∧ (if b8 = true then (vp_in p0 60 ∧ (∀ v10 : Int32, v10 = s7.1 (183 + p0.toNatClampNeg) 0 → (vp_in v10 20 ∧ (vp_in v10 20 ∧ (¬ p3 = 0 ∧ K ((p2 * ((zabs ((s7.1 164 20) - (s7.1 170 v10.toNatClampNeg))) + (zabs ((s7.1 164 21) - (s7.1 171 v10.toNatClampNeg))))) / p3) s7))))) else K (-1 : Int32) s7))))))) else K (-1 : Int32) s3) else K (-1 : Int32) s3) else K (-1 : Int32) s3)))) else K (-1 : Int32) s1))))) : zc l g (d + 1) M_X8_size [.ref 164, .int p0, .int p1, .int p2, .int p3] s (zKi K) := by
  refine zCall_of k_X8_size (Nat.le_of_ble_eq_true rfl) (Nat.le_refl _) (fun _ => ?_)
  show zt l g (d + 1) M_X8_size 0 [.ref 164, .int p0, .int p1, .int p2, .int p3, zJ] [] s (zKi K)
  refine z_aload_n (i := 0) dX8_size_0 rfl rfl rfl ?_
  refine z_iload_n (i := 1) dX8_size_1 rfl rfl rfl ?_
  refine z_callV k_X8_isTelling m_X8_277 (zRec_of i_164) rfl h rfl (Nat.le_of_ble_eq_true rfl) dX8_size_2 zy200 rfl ?_
  rintro v s1 ⟨b2, rfl, hRs1, h⟩
  show zt l g (d + 1) M_X8_size 5 [.ref 164, .int p0, .int p1, .int p2, .int p3, zJ] [.int (zb b2)] s1 _
  refine z_ifb_eq (pt := 66) dX8_size_5 (by decide) rfl (fun c => ?_) (fun c => ?_)
  · have h := zif h (by rw [c]; exact Bool.false_ne_true)
    refine z_iconst (v := (-1 : Int32)) dX8_size_66 (by decide) rfl ?_
    exact z_ret (some (.int (-1 : Int32))) (Or.inr (Or.inl ⟨_, _, rfl, rfl, rfl, dX8_size_67⟩)) zN200 ⟨_, rfl, h⟩
  · have h := zit h c
    refine z_aload_n (i := 0) dX8_size_8 rfl rfl rfl ?_
    refine z_iload_n (i := 2) dX8_size_9 rfl rfl rfl ?_
    refine z_callV k_X8_isThing m_X8_219 (zRec_of i_164) rfl h rfl (Nat.le_of_ble_eq_true rfl) dX8_size_10 zy200 rfl ?_
    rintro v s3 ⟨b4, rfl, hRs3, h⟩
    show zt l g (d + 1) M_X8_size 13 [.ref 164, .int p0, .int p1, .int p2, .int p3, zJ] [.int (zb b4)] s3 _
    refine z_ifb_eq (pt := 66) dX8_size_13 (by decide) rfl (fun c => ?_) (fun c => ?_)
    · have h := zif h (by rw [c]; exact Bool.false_ne_true)
      refine z_iconst (v := (-1 : Int32)) dX8_size_66 (by decide) rfl ?_
      exact z_ret (some (.int (-1 : Int32))) (Or.inr (Or.inl ⟨_, _, rfl, rfl, rfl, dX8_size_67⟩)) zN200 ⟨_, rfl, h⟩
    · have h := zit h c
      refine z_iload_n (i := 3) dX8_size_16 rfl rfl rfl ?_
      refine z_i2l dX8_size_17 rfl ?_
      refine z_lconst (v := (1 : Int64)) dX8_size_18 (by decide) rfl ?_
      refine z_ldc2 (v := (10000 : Int64)) q_X8_315 dX8_size_19 rfl ?_
      refine z_in m_X8_147 dX8_size_22 (Nat.le_of_ble_eq_true rfl) rfl ?_
      refine z_ifb_eq (pt := 66) dX8_size_25 (by decide) rfl (fun c => ?_) (fun c => ?_)
      · have h := zif h (by rw [c]; exact Bool.false_ne_true)
        refine z_iconst (v := (-1 : Int32)) dX8_size_66 (by decide) rfl ?_
        exact z_ret (some (.int (-1 : Int32))) (Or.inr (Or.inl ⟨_, _, rfl, rfl, rfl, dX8_size_67⟩)) zN200 ⟨_, rfl, h⟩
      · have h := zit h c
        refine z_iload dX8_size_28 rfl rfl ?_
        refine z_i2l dX8_size_30 rfl ?_
        refine z_lconst (v := (1 : Int64)) dX8_size_31 (by decide) rfl ?_
        refine z_ldc2 (v := (10000 : Int64)) q_X8_315 dX8_size_32 rfl ?_
        refine z_in m_X8_147 dX8_size_35 (Nat.le_of_ble_eq_true rfl) rfl ?_
        refine z_ifb_eq (pt := 66) dX8_size_38 (by decide) rfl (fun c => ?_) (fun c => ?_)
        · have h := zif h (by rw [c]; exact Bool.false_ne_true)
          refine z_iconst (v := (-1 : Int32)) dX8_size_66 (by decide) rfl ?_
          exact z_ret (some (.int (-1 : Int32))) (Or.inr (Or.inl ⟨_, _, rfl, rfl, rfl, dX8_size_67⟩)) zN200 ⟨_, rfl, h⟩
        · have h := zit h c
          refine z_aload_n (i := 0) dX8_size_41 rfl rfl rfl ?_
          refine z_getR (q := 172) f_X8_31 i_164 rfl (r_164_7 (zRok_of hRs3 (zRok_of hRs1 hR))) (by decide) dX8_size_42 rfl ?_
          refine z_iload_n (i := 2) dX8_size_45 rfl rfl rfl ?_
          obtain ⟨a5, h⟩ := h
          have wa5 := vin a5
          refine z_iald (x := s3.1 172 p1.toNatClampNeg) rfl a_172 a5 dX8_size_46 rfl ?_
          refine z_if_eq (pt := 66) dX8_size_47 (by decide) rfl (fun c => ?_) (fun c => ?_)
          · have h := zit h c
            refine z_iconst (v := (-1 : Int32)) dX8_size_66 (by decide) rfl ?_
            exact z_ret (some (.int (-1 : Int32))) (Or.inr (Or.inl ⟨_, _, rfl, rfl, rfl, dX8_size_67⟩)) zN200 ⟨_, rfl, h⟩
          · have h := zif h c
            refine z_aload_n (i := 0) dX8_size_50 rfl rfl rfl ?_
            refine z_iload_n (i := 2) dX8_size_51 rfl rfl rfl ?_
            refine z_aload_n (i := 0) dX8_size_52 rfl rfl rfl ?_
            refine z_getR (q := 182) f_X8_63 i_164 rfl (r_164_23 (zRok_of hRs3 (zRok_of hRs1 hR))) (by decide) dX8_size_53 rfl ?_
            refine z_iload_n (i := 1) dX8_size_56 rfl rfl rfl ?_
            obtain ⟨a6, h⟩ := h
            have wa6 := vin a6
            refine z_aald (q := 183 + p0.toNatClampNeg) (by decide) a_182 a6 (r_182 (zRok_of hRs3 (zRok_of hRs1 hR)) a6) (by omega) dX8_size_57 rfl ?_
            refine z_iconst (v := (1 : Int32)) dX8_size_58 (by decide) rfl ?_
            refine z_iald (x := s3.1 (183 + p0.toNatClampNeg) 1) rfl (a_row (p_182 a6)) (by unfold vp_in; decide) dX8_size_59 rfl ?_
            refine z_callV k_X8_isAt m_X8_225 (zRec_of i_164) rfl h rfl (Nat.le_of_ble_eq_true rfl) dX8_size_60 zy200 rfl ?_
            rintro v s7 ⟨b8, rfl, hRs7, h⟩
            show zt l g (d + 1) M_X8_size 63 [.ref 164, .int p0, .int p1, .int p2, .int p3, zJ] [.int (zb b8)] s7 _
            refine z_ifb_ne (pt := 68) dX8_size_63 (by decide) rfl (fun c => ?_) (fun c => ?_)
            · have h := zit h c
              refine z_aload_n (i := 0) dX8_size_68 rfl rfl rfl ?_
              refine z_getR (q := 182) f_X8_63 i_164 rfl (r_164_23 (zRok_of hRs7 (zRok_of hRs3 (zRok_of hRs1 hR)))) (by decide) dX8_size_69 rfl ?_
              refine z_iload_n (i := 1) dX8_size_72 rfl rfl rfl ?_
              obtain ⟨a9, h⟩ := h
              have wa9 := vin a9
              refine z_aald (q := 183 + p0.toNatClampNeg) (by decide) a_182 a9 (r_182 (zRok_of hRs7 (zRok_of hRs3 (zRok_of hRs1 hR))) a9) (by omega) dX8_size_73 rfl ?_
              refine z_iconst (v := (0 : Int32)) dX8_size_74 (by decide) rfl ?_
              refine z_iald (x := s7.1 (183 + p0.toNatClampNeg) 0) rfl (a_row (p_182 a9)) (by unfold vp_in; decide) dX8_size_75 rfl ?_
              refine z_istore dX8_size_76 (by decide) (zokd rfl) rfl ?_
              obtain ⟨v10, ev10⟩ : ∃ x : Int32, x = s7.1 (183 + p0.toNatClampNeg) 0 := ⟨_, rfl⟩
              rw [← ev10]
              have h := h v10 ev10
              show zt l g (d + 1) M_X8_size 78 [.ref 164, .int p0, .int p1, .int p2, .int p3, .int v10] [] s7 _
              refine z_iload_n (i := 3) dX8_size_78 rfl rfl rfl ?_
              refine z_aload_n (i := 0) dX8_size_79 rfl rfl rfl ?_
              refine z_getI (x := s7.1 164 20) rfl f_X8_207 i_164 rfl dX8_size_80 rfl ?_
              refine z_aload_n (i := 0) dX8_size_83 rfl rfl rfl ?_
              refine z_getR (q := 170) f_X8_25 i_164 rfl (r_164_5 (zRok_of hRs7 (zRok_of hRs3 (zRok_of hRs1 hR)))) (by decide) dX8_size_84 rfl ?_
              refine z_iload dX8_size_87 rfl rfl ?_
              obtain ⟨a11, h⟩ := h
              have wa11 := vin a11
              refine z_iald (x := s7.1 170 v10.toNatClampNeg) rfl a_170 a11 dX8_size_89 rfl ?_
              refine z_isub dX8_size_90 rfl ?_
              refine z_mabs m_X8_229 dX8_size_91 (Nat.le_of_ble_eq_true rfl) rfl ?_
              refine z_aload_n (i := 0) dX8_size_94 rfl rfl rfl ?_
              refine z_getI (x := s7.1 164 21) rfl f_X8_210 i_164 rfl dX8_size_95 rfl ?_
              refine z_aload_n (i := 0) dX8_size_98 rfl rfl rfl ?_
              refine z_getR (q := 171) f_X8_28 i_164 rfl (r_164_6 (zRok_of hRs7 (zRok_of hRs3 (zRok_of hRs1 hR)))) (by decide) dX8_size_99 rfl ?_
              refine z_iload dX8_size_102 rfl rfl ?_
              obtain ⟨a12, h⟩ := h
              have wa12 := vin a12
              refine z_iald (x := s7.1 171 v10.toNatClampNeg) rfl a_171 a12 dX8_size_104 rfl ?_
              refine z_isub dX8_size_105 rfl ?_
              refine z_mabs m_X8_229 dX8_size_106 (Nat.le_of_ble_eq_true rfl) rfl ?_
              refine z_iadd dX8_size_109 rfl ?_
              refine z_imul dX8_size_110 rfl ?_
              refine z_iload dX8_size_111 rfl rfl ?_
              obtain ⟨a13, h⟩ := h
              refine z_idiv dX8_size_113 a13 rfl ?_
              exact z_ret (some (.int ((p2 * ((zabs ((s7.1 164 20) - (s7.1 170 v10.toNatClampNeg))) + (zabs ((s7.1 164 21) - (s7.1 171 v10.toNatClampNeg))))) / p3))) (Or.inr (Or.inl ⟨_, _, rfl, rfl, rfl, dX8_size_114⟩)) zN200 ⟨_, rfl, h⟩
            · have h := zif h (by rw [c]; exact Bool.false_ne_true)
              refine z_iconst (v := (-1 : Int32)) dX8_size_66 (by decide) rfl ?_
              exact z_ret (some (.int (-1 : Int32))) (Or.inr (Or.inl ⟨_, _, rfl, rfl, rfl, dX8_size_67⟩)) zN200 ⟨_, rfl, h⟩
theorem dX8_hulls_0 : decode cX8_hulls 0 = .ok (.iload_n 1, 1) := by decide +kernel
theorem dX8_hulls_1 : decode cX8_hulls 1 = .ok (.i2l, 1) := by decide +kernel
theorem dX8_hulls_2 : decode cX8_hulls 2 = .ok (.lconst 1, 1) := by decide +kernel
theorem dX8_hulls_3 : decode cX8_hulls 3 = .ok (.ldc2_w 192, 3) := by decide +kernel
theorem dX8_hulls_6 : decode cX8_hulls 6 = .ok (.invokestatic 147, 3) := by decide +kernel
theorem dX8_hulls_9 : decode cX8_hulls 9 = .ok (.ifCond .eq 13, 3) := by decide +kernel
theorem dX8_hulls_12 : decode cX8_hulls 12 = .ok (.iload_n 2, 1) := by decide +kernel
theorem dX8_hulls_13 : decode cX8_hulls 13 = .ok (.i2l, 1) := by decide +kernel
theorem dX8_hulls_14 : decode cX8_hulls 14 = .ok (.lconst 0, 1) := by decide +kernel
theorem dX8_hulls_15 : decode cX8_hulls 15 = .ok (.lconst 1, 1) := by decide +kernel
theorem dX8_hulls_16 : decode cX8_hulls 16 = .ok (.invokestatic 147, 3) := by decide +kernel
theorem dX8_hulls_19 : decode cX8_hulls 19 = .ok (.ifCond .ne 5, 3) := by decide +kernel
theorem dX8_hulls_22 : decode cX8_hulls 22 = .ok (.iconst (-1), 1) := by decide +kernel
theorem dX8_hulls_23 : decode cX8_hulls 23 = .ok (.ireturn, 1) := by decide +kernel
theorem dX8_hulls_24 : decode cX8_hulls 24 = .ok (.iconst 0, 1) := by decide +kernel
theorem dX8_hulls_25 : decode cX8_hulls 25 = .ok (.istore_n 3, 1) := by decide +kernel
theorem dX8_hulls_26 : decode cX8_hulls 26 = .ok (.iconst 0, 1) := by decide +kernel
theorem dX8_hulls_27 : decode cX8_hulls 27 = .ok (.istore 4, 2) := by decide +kernel
theorem dX8_hulls_29 : decode cX8_hulls 29 = .ok (.iload 4, 2) := by decide +kernel
theorem dX8_hulls_31 : decode cX8_hulls 31 = .ok (.aload_n 0, 1) := by decide +kernel
theorem dX8_hulls_32 : decode cX8_hulls 32 = .ok (.getfield 270, 3) := by decide +kernel
theorem dX8_hulls_35 : decode cX8_hulls 35 = .ok (.if_icmp .ge 58, 3) := by decide +kernel
theorem dX8_hulls_38 : decode cX8_hulls 38 = .ok (.iload_n 3, 1) := by decide +kernel
theorem dX8_hulls_39 : decode cX8_hulls 39 = .ok (.aload_n 0, 1) := by decide +kernel
theorem dX8_hulls_40 : decode cX8_hulls 40 = .ok (.getfield 63, 3) := by decide +kernel
theorem dX8_hulls_43 : decode cX8_hulls 43 = .ok (.iload 4, 2) := by decide +kernel
theorem dX8_hulls_45 : decode cX8_hulls 45 = .ok (.aaload, 1) := by decide +kernel
theorem dX8_hulls_46 : decode cX8_hulls 46 = .ok (.bipush 7, 2) := by decide +kernel
theorem dX8_hulls_48 : decode cX8_hulls 48 = .ok (.iaload, 1) := by decide +kernel
theorem dX8_hulls_49 : decode cX8_hulls 49 = .ok (.iload_n 1, 1) := by decide +kernel
theorem dX8_hulls_50 : decode cX8_hulls 50 = .ok (.if_icmp .lt 34, 3) := by decide +kernel
theorem dX8_hulls_53 : decode cX8_hulls 53 = .ok (.aload_n 0, 1) := by decide +kernel
theorem dX8_hulls_54 : decode cX8_hulls 54 = .ok (.iload 4, 2) := by decide +kernel
theorem dX8_hulls_56 : decode cX8_hulls 56 = .ok (.invokevirtual 289, 3) := by decide +kernel
theorem dX8_hulls_59 : decode cX8_hulls 59 = .ok (.ifCond .eq 25, 3) := by decide +kernel
theorem dX8_hulls_62 : decode cX8_hulls 62 = .ok (.iload_n 2, 1) := by decide +kernel
theorem dX8_hulls_63 : decode cX8_hulls 63 = .ok (.ifCond .eq 17, 3) := by decide +kernel
theorem dX8_hulls_66 : decode cX8_hulls 66 = .ok (.aload_n 0, 1) := by decide +kernel
theorem dX8_hulls_67 : decode cX8_hulls 67 = .ok (.getfield 63, 3) := by decide +kernel
theorem dX8_hulls_70 : decode cX8_hulls 70 = .ok (.iload 4, 2) := by decide +kernel
theorem dX8_hulls_72 : decode cX8_hulls 72 = .ok (.aaload, 1) := by decide +kernel
theorem dX8_hulls_73 : decode cX8_hulls 73 = .ok (.bipush 8, 2) := by decide +kernel
theorem dX8_hulls_75 : decode cX8_hulls 75 = .ok (.iaload, 1) := by decide +kernel
theorem dX8_hulls_76 : decode cX8_hulls 76 = .ok (.iconst 1, 1) := by decide +kernel
theorem dX8_hulls_77 : decode cX8_hulls 77 = .ok (.if_icmp .ne 7, 3) := by decide +kernel
theorem dX8_hulls_80 : decode cX8_hulls 80 = .ok (.iconst 1, 1) := by decide +kernel
theorem dX8_hulls_81 : decode cX8_hulls 81 = .ok (.goto 4, 3) := by decide +kernel
theorem dX8_hulls_84 : decode cX8_hulls 84 = .ok (.iconst 0, 1) := by decide +kernel
theorem dX8_hulls_85 : decode cX8_hulls 85 = .ok (.iadd, 1) := by decide +kernel
theorem dX8_hulls_86 : decode cX8_hulls 86 = .ok (.istore_n 3, 1) := by decide +kernel
theorem dX8_hulls_87 : decode cX8_hulls 87 = .ok (.iinc 4 1, 3) := by decide +kernel
theorem dX8_hulls_90 : decode cX8_hulls 90 = .ok (.goto (-61), 3) := by decide +kernel
theorem dX8_hulls_93 : decode cX8_hulls 93 = .ok (.iload_n 3, 1) := by decide +kernel
theorem dX8_hulls_94 : decode cX8_hulls 94 = .ok (.ireturn, 1) := by decide +kernel
set_option maxHeartbeats 4000000 in
set_option maxRecDepth 100000 in
theorem t_X8_hulls {l : Launch} {g : zG} {d : Nat} {s : zS} (hR : zRok s) {p0 : Int32} {p1 : Int32} {K : Int32 → zS → Prop} (h : (if (zinr p0.toInt64 (1 : Int64) (9 : Int64)) = true then (if (zinr p1.toInt64 (0 : Int64) (1 : Int64)) = true then zt l g (d + 1) M_X8_hulls 29 [.ref 164, .int p0, .int p1, .int (0 : Int32), .int (0 : Int32)] [] s (zKi K) else K (-1 : Int32) s) else K (-1 : Int32) s)) : zc l g (d + 1) M_X8_hulls [.ref 164, .int p0, .int p1] s (zKi K) := by
  refine zCall_of k_X8_hulls (Nat.le_of_ble_eq_true rfl) (Nat.le_refl _) (fun _ => ?_)
  show zt l g (d + 1) M_X8_hulls 0 [.ref 164, .int p0, .int p1, zJ, zJ] [] s (zKi K)
  refine z_iload_n (i := 1) dX8_hulls_0 rfl rfl rfl ?_
  refine z_i2l dX8_hulls_1 rfl ?_
  refine z_lconst (v := (1 : Int64)) dX8_hulls_2 (by decide) rfl ?_
  refine z_ldc2 (v := (9 : Int64)) q_X8_192 dX8_hulls_3 rfl ?_
  refine z_in m_X8_147 dX8_hulls_6 (Nat.le_of_ble_eq_true rfl) rfl ?_
  refine z_ifb_eq (pt := 22) dX8_hulls_9 (by decide) rfl (fun c => ?_) (fun c => ?_)
  · have h := zif h (by rw [c]; exact Bool.false_ne_true)
    refine z_iconst (v := (-1 : Int32)) dX8_hulls_22 (by decide) rfl ?_
    exact z_ret (some (.int (-1 : Int32))) (Or.inr (Or.inl ⟨_, _, rfl, rfl, rfl, dX8_hulls_23⟩)) zN200 ⟨_, rfl, h⟩
  · have h := zit h c
    refine z_iload_n (i := 2) dX8_hulls_12 rfl rfl rfl ?_
    refine z_i2l dX8_hulls_13 rfl ?_
    refine z_lconst (v := (0 : Int64)) dX8_hulls_14 (by decide) rfl ?_
    refine z_lconst (v := (1 : Int64)) dX8_hulls_15 (by decide) rfl ?_
    refine z_in m_X8_147 dX8_hulls_16 (Nat.le_of_ble_eq_true rfl) rfl ?_
    refine z_ifb_ne (pt := 24) dX8_hulls_19 (by decide) rfl (fun c => ?_) (fun c => ?_)
    · have h := zit h c
      refine z_iconst (v := (0 : Int32)) dX8_hulls_24 (by decide) rfl ?_
      refine z_istore_n (i := 3) dX8_hulls_25 rfl (by decide) (zokd rfl) rfl ?_
      show zt l g (d + 1) M_X8_hulls 26 [.ref 164, .int p0, .int p1, .int (0 : Int32), zJ] [] s _
      refine z_iconst (v := (0 : Int32)) dX8_hulls_26 (by decide) rfl ?_
      refine z_istore dX8_hulls_27 (by decide) (zokd rfl) rfl ?_
      show zt l g (d + 1) M_X8_hulls 29 [.ref 164, .int p0, .int p1, .int (0 : Int32), .int (0 : Int32)] [] s _
      exact h
    · have h := zif h (by rw [c]; exact Bool.false_ne_true)
      refine z_iconst (v := (-1 : Int32)) dX8_hulls_22 (by decide) rfl ?_
      exact z_ret (some (.int (-1 : Int32))) (Or.inr (Or.inl ⟨_, _, rfl, rfl, rfl, dX8_hulls_23⟩)) zN200 ⟨_, rfl, h⟩
set_option maxHeartbeats 4000000 in
set_option maxRecDepth 100000 in
theorem t_X8_hulls_29 {l : Launch} {g : zG} {d : Nat} {s : zS} (hR : zRok s) {x1 : Int32} {x2 : Int32} {x3 : Int32} {x4 : Int32} {K : Int32 → zS → Prop} (h : (if (s.1 164 24) ≤ x4 then K x3 s else (vp_in x4 60 ∧ (if (s.1 (183 + x4.toNatClampNeg) 7) < x1 then zt l g (d + 1) M_X8_hulls 29 [.ref 164, .int x1, .int x2, .int (x3 + (0 : Int32)), .int (x4 + (1 : Int32))] [] s (zKi K) else (zc l g d M_X8_fitting [.ref 164, .int x4] s (zKi (fun r3 s2 => s2.2.2.1 = s.2.2.1 ∧ (if r3 = 0 then zt l g (d + 1) M_X8_hulls 29 [.ref 164, .int x1, .int x2, .int (x3 + (0 : Int32)), .int (x4 + (1 : Int32))] [] s2 (zKi K) else (if x2 = 0 then zt l g (d + 1) M_X8_hulls 29 [.ref 164, .int x1, .int x2, .int (x3 + (1 : Int32)), .int (x4 + (1 : Int32))] [] s2 (zKi K) else (vp_in x4 60 ∧ (if (s2.1 (183 + x4.toNatClampNeg) 8) = (1 : Int32) then zt l g (d + 1) M_X8_hulls 29 [.ref 164, .int x1, .int x2, .int (x3 + (1 : Int32)), .int (x4 + (1 : Int32))] [] s2 (zKi K) else zt l g (d + 1) M_X8_hulls 29 [.ref 164, .int x1, .int x2, .int (x3 + (0 : Int32)), .int (x4 + (1 : Int32))] [] s2 (zKi K)))))))))))) : zt l g (d + 1) M_X8_hulls 29 [.ref 164, .int x1, .int x2, .int x3, .int x4] [] s (zKi K) := by
  refine z_iload dX8_hulls_29 rfl rfl ?_
  refine z_aload_n (i := 0) dX8_hulls_31 rfl rfl rfl ?_
  refine z_getI (x := s.1 164 24) rfl f_X8_270 i_164 rfl dX8_hulls_32 rfl ?_
  refine z_icmp_ge (pt := 93) dX8_hulls_35 (by decide) rfl (fun c => ?_) (fun c => ?_)
  · have h := zit h c
    refine z_iload_n (i := 3) dX8_hulls_93 rfl rfl rfl ?_
    exact z_ret (some (.int x3)) (Or.inr (Or.inl ⟨_, _, rfl, rfl, rfl, dX8_hulls_94⟩)) zN200 ⟨_, rfl, h⟩
  · have h := zif h c
    refine z_iload_n (i := 3) dX8_hulls_38 rfl rfl rfl ?_
    refine z_aload_n (i := 0) dX8_hulls_39 rfl rfl rfl ?_
    refine z_getR (q := 182) f_X8_63 i_164 rfl (r_164_23 hR) (by decide) dX8_hulls_40 rfl ?_
    refine z_iload dX8_hulls_43 rfl rfl ?_
    obtain ⟨a1, h⟩ := h
    have wa1 := vin a1
    refine z_aald (q := 183 + x4.toNatClampNeg) (by decide) a_182 a1 (r_182 hR a1) (by omega) dX8_hulls_45 rfl ?_
    refine z_bipush (v := (7 : Int32)) dX8_hulls_46 (by decide) rfl ?_
    refine z_iald (x := s.1 (183 + x4.toNatClampNeg) 7) rfl (a_row (p_182 a1)) (by unfold vp_in; decide) dX8_hulls_48 rfl ?_
    refine z_iload_n (i := 1) dX8_hulls_49 rfl rfl rfl ?_
    refine z_icmp_lt (pt := 84) dX8_hulls_50 (by decide) rfl (fun c => ?_) (fun c => ?_)
    · have h := zit h c
      refine z_iconst (v := (0 : Int32)) dX8_hulls_84 (by decide) rfl ?_
      refine z_iadd dX8_hulls_85 rfl ?_
      refine z_istore_n (i := 3) dX8_hulls_86 rfl (by decide) (zokd rfl) rfl ?_
      show zt l g (d + 1) M_X8_hulls 87 [.ref 164, .int x1, .int x2, .int (x3 + (0 : Int32)), .int x4] [] s _
      refine z_iinc (v := x4 + (1 : Int32)) dX8_hulls_87 rfl rfl (by decide) (zokd rfl) rfl ?_
      show zt l g (d + 1) M_X8_hulls 90 [.ref 164, .int x1, .int x2, .int (x3 + (0 : Int32)), .int (x4 + (1 : Int32))] [] s _
      refine z_goto (pn := 29) dX8_hulls_90 (by decide) ?_
      exact h
    · have h := zif h c
      refine z_aload_n (i := 0) dX8_hulls_53 rfl rfl rfl ?_
      refine z_iload dX8_hulls_54 rfl rfl ?_
      refine z_callV k_X8_fitting m_X8_289 (zRec_of i_164) rfl h rfl (Nat.le_of_ble_eq_true rfl) dX8_hulls_56 zy200 rfl ?_
      rintro v s2 ⟨r3, rfl, hRs2, h⟩
      show zt l g (d + 1) M_X8_hulls 59 [.ref 164, .int x1, .int x2, .int x3, .int x4] [.int r3, .int x3] s2 _
      refine z_if_eq (pt := 84) dX8_hulls_59 (by decide) rfl (fun c => ?_) (fun c => ?_)
      · have h := zit h c
        refine z_iconst (v := (0 : Int32)) dX8_hulls_84 (by decide) rfl ?_
        refine z_iadd dX8_hulls_85 rfl ?_
        refine z_istore_n (i := 3) dX8_hulls_86 rfl (by decide) (zokd rfl) rfl ?_
        show zt l g (d + 1) M_X8_hulls 87 [.ref 164, .int x1, .int x2, .int (x3 + (0 : Int32)), .int x4] [] s2 _
        refine z_iinc (v := x4 + (1 : Int32)) dX8_hulls_87 rfl rfl (by decide) (zokd rfl) rfl ?_
        show zt l g (d + 1) M_X8_hulls 90 [.ref 164, .int x1, .int x2, .int (x3 + (0 : Int32)), .int (x4 + (1 : Int32))] [] s2 _
        refine z_goto (pn := 29) dX8_hulls_90 (by decide) ?_
        exact h
      · have h := zif h c
        refine z_iload_n (i := 2) dX8_hulls_62 rfl rfl rfl ?_
        refine z_if_eq (pt := 80) dX8_hulls_63 (by decide) rfl (fun c => ?_) (fun c => ?_)
        · have h := zit h c
          refine z_iconst (v := (1 : Int32)) dX8_hulls_80 (by decide) rfl ?_
          refine z_goto (pn := 85) dX8_hulls_81 (by decide) ?_
          refine z_iadd dX8_hulls_85 rfl ?_
          refine z_istore_n (i := 3) dX8_hulls_86 rfl (by decide) (zokd rfl) rfl ?_
          show zt l g (d + 1) M_X8_hulls 87 [.ref 164, .int x1, .int x2, .int (x3 + (1 : Int32)), .int x4] [] s2 _
          refine z_iinc (v := x4 + (1 : Int32)) dX8_hulls_87 rfl rfl (by decide) (zokd rfl) rfl ?_
          show zt l g (d + 1) M_X8_hulls 90 [.ref 164, .int x1, .int x2, .int (x3 + (1 : Int32)), .int (x4 + (1 : Int32))] [] s2 _
          refine z_goto (pn := 29) dX8_hulls_90 (by decide) ?_
          exact h
        · have h := zif h c
          refine z_aload_n (i := 0) dX8_hulls_66 rfl rfl rfl ?_
          refine z_getR (q := 182) f_X8_63 i_164 rfl (r_164_23 (zRok_of hRs2 hR)) (by decide) dX8_hulls_67 rfl ?_
          refine z_iload dX8_hulls_70 rfl rfl ?_
          obtain ⟨a4, h⟩ := h
          have wa4 := vin a4
          refine z_aald (q := 183 + x4.toNatClampNeg) (by decide) a_182 a4 (r_182 (zRok_of hRs2 hR) a4) (by omega) dX8_hulls_72 rfl ?_
          refine z_bipush (v := (8 : Int32)) dX8_hulls_73 (by decide) rfl ?_
          refine z_iald (x := s2.1 (183 + x4.toNatClampNeg) 8) rfl (a_row (p_182 a4)) (by unfold vp_in; decide) dX8_hulls_75 rfl ?_
          refine z_iconst (v := (1 : Int32)) dX8_hulls_76 (by decide) rfl ?_
          refine z_icmp_ne (pt := 84) dX8_hulls_77 (by decide) rfl (fun c => ?_) (fun c => ?_)
          · have h := zif h c
            refine z_iconst (v := (0 : Int32)) dX8_hulls_84 (by decide) rfl ?_
            refine z_iadd dX8_hulls_85 rfl ?_
            refine z_istore_n (i := 3) dX8_hulls_86 rfl (by decide) (zokd rfl) rfl ?_
            show zt l g (d + 1) M_X8_hulls 87 [.ref 164, .int x1, .int x2, .int (x3 + (0 : Int32)), .int x4] [] s2 _
            refine z_iinc (v := x4 + (1 : Int32)) dX8_hulls_87 rfl rfl (by decide) (zokd rfl) rfl ?_
            show zt l g (d + 1) M_X8_hulls 90 [.ref 164, .int x1, .int x2, .int (x3 + (0 : Int32)), .int (x4 + (1 : Int32))] [] s2 _
            refine z_goto (pn := 29) dX8_hulls_90 (by decide) ?_
            exact h
          · have h := zit h c
            refine z_iconst (v := (1 : Int32)) dX8_hulls_80 (by decide) rfl ?_
            refine z_goto (pn := 85) dX8_hulls_81 (by decide) ?_
            refine z_iadd dX8_hulls_85 rfl ?_
            refine z_istore_n (i := 3) dX8_hulls_86 rfl (by decide) (zokd rfl) rfl ?_
            show zt l g (d + 1) M_X8_hulls 87 [.ref 164, .int x1, .int x2, .int (x3 + (1 : Int32)), .int x4] [] s2 _
            refine z_iinc (v := x4 + (1 : Int32)) dX8_hulls_87 rfl rfl (by decide) (zokd rfl) rfl ?_
            show zt l g (d + 1) M_X8_hulls 90 [.ref 164, .int x1, .int x2, .int (x3 + (1 : Int32)), .int (x4 + (1 : Int32))] [] s2 _
            refine z_goto (pn := 29) dX8_hulls_90 (by decide) ?_
            exact h
theorem dX8_partedAt_0 : decode cX8_partedAt 0 = .ok (.aload_n 0, 1) := by decide +kernel
theorem dX8_partedAt_1 : decode cX8_partedAt 1 = .ok (.getfield 63, 3) := by decide +kernel
theorem dX8_partedAt_4 : decode cX8_partedAt 4 = .ok (.iload_n 1, 1) := by decide +kernel
theorem dX8_partedAt_5 : decode cX8_partedAt 5 = .ok (.aaload, 1) := by decide +kernel
theorem dX8_partedAt_6 : decode cX8_partedAt 6 = .ok (.iconst 0, 1) := by decide +kernel
theorem dX8_partedAt_7 : decode cX8_partedAt 7 = .ok (.iaload, 1) := by decide +kernel
theorem dX8_partedAt_8 : decode cX8_partedAt 8 = .ok (.istore 4, 2) := by decide +kernel
theorem dX8_partedAt_10 : decode cX8_partedAt 10 = .ok (.iconst 0, 1) := by decide +kernel
theorem dX8_partedAt_11 : decode cX8_partedAt 11 = .ok (.istore 5, 2) := by decide +kernel
theorem dX8_partedAt_13 : decode cX8_partedAt 13 = .ok (.iconst 0, 1) := by decide +kernel
theorem dX8_partedAt_14 : decode cX8_partedAt 14 = .ok (.istore 6, 2) := by decide +kernel
theorem dX8_partedAt_16 : decode cX8_partedAt 16 = .ok (.iload 6, 2) := by decide +kernel
theorem dX8_partedAt_18 : decode cX8_partedAt 18 = .ok (.aload_n 0, 1) := by decide +kernel
theorem dX8_partedAt_19 : decode cX8_partedAt 19 = .ok (.getfield 183, 3) := by decide +kernel
theorem dX8_partedAt_22 : decode cX8_partedAt 22 = .ok (.if_icmp .ge 118, 3) := by decide +kernel
theorem dX8_partedAt_25 : decode cX8_partedAt 25 = .ok (.iconst 0, 1) := by decide +kernel
theorem dX8_partedAt_26 : decode cX8_partedAt 26 = .ok (.istore 7, 2) := by decide +kernel
theorem dX8_partedAt_28 : decode cX8_partedAt 28 = .ok (.iload 7, 2) := by decide +kernel
theorem dX8_partedAt_30 : decode cX8_partedAt 30 = .ok (.iload 6, 2) := by decide +kernel
theorem dX8_partedAt_32 : decode cX8_partedAt 32 = .ok (.if_icmp .ge 102, 3) := by decide +kernel
theorem dX8_partedAt_35 : decode cX8_partedAt 35 = .ok (.iload_n 2, 1) := by decide +kernel
theorem dX8_partedAt_36 : decode cX8_partedAt 36 = .ok (.iload 6, 2) := by decide +kernel
theorem dX8_partedAt_38 : decode cX8_partedAt 38 = .ok (.ishr, 1) := by decide +kernel
theorem dX8_partedAt_39 : decode cX8_partedAt 39 = .ok (.iconst 1, 1) := by decide +kernel
theorem dX8_partedAt_40 : decode cX8_partedAt 40 = .ok (.iand, 1) := by decide +kernel
theorem dX8_partedAt_41 : decode cX8_partedAt 41 = .ok (.ifCond .eq 87, 3) := by decide +kernel
theorem dX8_partedAt_44 : decode cX8_partedAt 44 = .ok (.iload_n 2, 1) := by decide +kernel
theorem dX8_partedAt_45 : decode cX8_partedAt 45 = .ok (.iload 7, 2) := by decide +kernel
theorem dX8_partedAt_47 : decode cX8_partedAt 47 = .ok (.ishr, 1) := by decide +kernel
theorem dX8_partedAt_48 : decode cX8_partedAt 48 = .ok (.iconst 1, 1) := by decide +kernel
theorem dX8_partedAt_49 : decode cX8_partedAt 49 = .ok (.iand, 1) := by decide +kernel
theorem dX8_partedAt_50 : decode cX8_partedAt 50 = .ok (.ifCond .ne 6, 3) := by decide +kernel
theorem dX8_partedAt_53 : decode cX8_partedAt 53 = .ok (.goto 75, 3) := by decide +kernel
theorem dX8_partedAt_56 : decode cX8_partedAt 56 = .ok (.aload_n 0, 1) := by decide +kernel
theorem dX8_partedAt_57 : decode cX8_partedAt 57 = .ok (.iload 6, 2) := by decide +kernel
theorem dX8_partedAt_59 : decode cX8_partedAt 59 = .ok (.iload 4, 2) := by decide +kernel
theorem dX8_partedAt_61 : decode cX8_partedAt 61 = .ok (.iload_n 3, 1) := by decide +kernel
theorem dX8_partedAt_62 : decode cX8_partedAt 62 = .ok (.invokevirtual 255, 3) := by decide +kernel
theorem dX8_partedAt_65 : decode cX8_partedAt 65 = .ok (.istore 8, 2) := by decide +kernel
theorem dX8_partedAt_67 : decode cX8_partedAt 67 = .ok (.aload_n 0, 1) := by decide +kernel
theorem dX8_partedAt_68 : decode cX8_partedAt 68 = .ok (.iload 7, 2) := by decide +kernel
theorem dX8_partedAt_70 : decode cX8_partedAt 70 = .ok (.iload 4, 2) := by decide +kernel
theorem dX8_partedAt_72 : decode cX8_partedAt 72 = .ok (.iload_n 3, 1) := by decide +kernel
theorem dX8_partedAt_73 : decode cX8_partedAt 73 = .ok (.invokevirtual 255, 3) := by decide +kernel
theorem dX8_partedAt_76 : decode cX8_partedAt 76 = .ok (.istore 9, 2) := by decide +kernel
theorem dX8_partedAt_78 : decode cX8_partedAt 78 = .ok (.iload 5, 2) := by decide +kernel
theorem dX8_partedAt_80 : decode cX8_partedAt 80 = .ok (.iload 8, 2) := by decide +kernel
theorem dX8_partedAt_82 : decode cX8_partedAt 82 = .ok (.iload 9, 2) := by decide +kernel
theorem dX8_partedAt_84 : decode cX8_partedAt 84 = .ok (.if_icmp .ne 36, 3) := by decide +kernel
theorem dX8_partedAt_87 : decode cX8_partedAt 87 = .ok (.iload 8, 2) := by decide +kernel
theorem dX8_partedAt_89 : decode cX8_partedAt 89 = .ok (.ifCond .eq 35, 3) := by decide +kernel
theorem dX8_partedAt_92 : decode cX8_partedAt 92 = .ok (.aload_n 0, 1) := by decide +kernel
theorem dX8_partedAt_93 : decode cX8_partedAt 93 = .ok (.iload 6, 2) := by decide +kernel
theorem dX8_partedAt_95 : decode cX8_partedAt 95 = .ok (.iload 4, 2) := by decide +kernel
theorem dX8_partedAt_97 : decode cX8_partedAt 97 = .ok (.iload_n 3, 1) := by decide +kernel
theorem dX8_partedAt_98 : decode cX8_partedAt 98 = .ok (.invokevirtual 259, 3) := by decide +kernel
theorem dX8_partedAt_101 : decode cX8_partedAt 101 = .ok (.aload_n 0, 1) := by decide +kernel
theorem dX8_partedAt_102 : decode cX8_partedAt 102 = .ok (.iload 7, 2) := by decide +kernel
theorem dX8_partedAt_104 : decode cX8_partedAt 104 = .ok (.iload 4, 2) := by decide +kernel
theorem dX8_partedAt_106 : decode cX8_partedAt 106 = .ok (.iload_n 3, 1) := by decide +kernel
theorem dX8_partedAt_107 : decode cX8_partedAt 107 = .ok (.invokevirtual 259, 3) := by decide +kernel
theorem dX8_partedAt_110 : decode cX8_partedAt 110 = .ok (.invokestatic 282, 3) := by decide +kernel
theorem dX8_partedAt_113 : decode cX8_partedAt 113 = .ok (.aload_n 0, 1) := by decide +kernel
theorem dX8_partedAt_114 : decode cX8_partedAt 114 = .ok (.getfield 66, 3) := by decide +kernel
theorem dX8_partedAt_117 : decode cX8_partedAt 117 = .ok (.if_icmp .le 7, 3) := by decide +kernel
theorem dX8_partedAt_120 : decode cX8_partedAt 120 = .ok (.iconst 1, 1) := by decide +kernel
theorem dX8_partedAt_121 : decode cX8_partedAt 121 = .ok (.goto 4, 3) := by decide +kernel
theorem dX8_partedAt_124 : decode cX8_partedAt 124 = .ok (.iconst 0, 1) := by decide +kernel
theorem dX8_partedAt_125 : decode cX8_partedAt 125 = .ok (.iadd, 1) := by decide +kernel
theorem dX8_partedAt_126 : decode cX8_partedAt 126 = .ok (.istore 5, 2) := by decide +kernel
theorem dX8_partedAt_128 : decode cX8_partedAt 128 = .ok (.iinc 7 1, 3) := by decide +kernel
theorem dX8_partedAt_131 : decode cX8_partedAt 131 = .ok (.goto (-103), 3) := by decide +kernel
theorem dX8_partedAt_134 : decode cX8_partedAt 134 = .ok (.iinc 6 1, 3) := by decide +kernel
theorem dX8_partedAt_137 : decode cX8_partedAt 137 = .ok (.goto (-121), 3) := by decide +kernel
theorem dX8_partedAt_140 : decode cX8_partedAt 140 = .ok (.iload 5, 2) := by decide +kernel
theorem dX8_partedAt_142 : decode cX8_partedAt 142 = .ok (.ireturn, 1) := by decide +kernel
set_option maxHeartbeats 4000000 in
set_option maxRecDepth 100000 in
theorem t_X8_partedAt {l : Launch} {g : zG} {d : Nat} {s : zS} (hR : zRok s) {p0 : Int32} {p1 : Int32} {p2 : Int32} {K : Int32 → zS → Prop} (h : (vp_in p0 60 ∧ (∀ v2 : Int32, v2 = s.1 (183 + p0.toNatClampNeg) 0 → zt l g (d + 1) M_X8_partedAt 16 [.ref 164, zJ, .int p1, .int p2, .int v2, .int (0 : Int32), .int (0 : Int32), zJ, zJ, zJ] [] s (zKi K)))) : zc l g (d + 1) M_X8_partedAt [.ref 164, .int p0, .int p1, .int p2] s (zKi K) := by
  refine zCall_of k_X8_partedAt (Nat.le_of_ble_eq_true rfl) (Nat.le_refl _) (fun _ => ?_)
  show zt l g (d + 1) M_X8_partedAt 0 [.ref 164, .int p0, .int p1, .int p2, zJ, zJ, zJ, zJ, zJ, zJ] [] s (zKi K)
  refine z_aload_n (i := 0) dX8_partedAt_0 rfl rfl rfl ?_
  refine z_getR (q := 182) f_X8_63 i_164 rfl (r_164_23 hR) (by decide) dX8_partedAt_1 rfl ?_
  refine z_iload_n (i := 1) dX8_partedAt_4 rfl rfl rfl ?_
  obtain ⟨a1, h⟩ := h
  have wa1 := vin a1
  refine z_aald (q := 183 + p0.toNatClampNeg) (by decide) a_182 a1 (r_182 hR a1) (by omega) dX8_partedAt_5 rfl ?_
  refine z_iconst (v := (0 : Int32)) dX8_partedAt_6 (by decide) rfl ?_
  refine z_iald (x := s.1 (183 + p0.toNatClampNeg) 0) rfl (a_row (p_182 a1)) (by unfold vp_in; decide) dX8_partedAt_7 rfl ?_
  refine z_istore dX8_partedAt_8 (by decide) (zokd rfl) rfl ?_
  obtain ⟨v2, ev2⟩ : ∃ x : Int32, x = s.1 (183 + p0.toNatClampNeg) 0 := ⟨_, rfl⟩
  rw [← ev2]
  have h := h v2 ev2
  show zt l g (d + 1) M_X8_partedAt 10 [.ref 164, .int p0, .int p1, .int p2, .int v2, zJ, zJ, zJ, zJ, zJ] [] s _
  refine z_iconst (v := (0 : Int32)) dX8_partedAt_10 (by decide) rfl ?_
  refine z_istore dX8_partedAt_11 (by decide) (zokd rfl) rfl ?_
  show zt l g (d + 1) M_X8_partedAt 13 [.ref 164, .int p0, .int p1, .int p2, .int v2, .int (0 : Int32), zJ, zJ, zJ, zJ] [] s _
  refine z_iconst (v := (0 : Int32)) dX8_partedAt_13 (by decide) rfl ?_
  refine z_istore dX8_partedAt_14 (by decide) (zokd rfl) rfl ?_
  show zt l g (d + 1) M_X8_partedAt 16 [.ref 164, .int p0, .int p1, .int p2, .int v2, .int (0 : Int32), .int (0 : Int32), zJ, zJ, zJ] [] s _
  refine z_wk (ls' := [.ref 164, zJ, .int p1, .int p2, .int v2, .int (0 : Int32), .int (0 : Int32), zJ, zJ, zJ]) ⟨Or.inr rfl, Or.inl rfl, Or.inr rfl, Or.inr rfl, Or.inr rfl, Or.inr rfl, Or.inr rfl, Or.inr rfl, Or.inr rfl, Or.inr rfl, trivial⟩ ?_
  exact h
set_option maxHeartbeats 4000000 in
set_option maxRecDepth 100000 in
theorem t_X8_partedAt_16 {l : Launch} {g : zG} {d : Nat} {s : zS} (hR : zRok s) {x2 : Int32} {x3 : Int32} {x4 : Int32} {x5 : Int32} {x6 : Int32} {K : Int32 → zS → Prop} (h : (if (s.1 164 19) ≤ x6 then K x5 s else zt l g (d + 1) M_X8_partedAt 28 [.ref 164, zJ, .int x2, .int x3, .int x4, .int x5, .int x6, .int (0 : Int32), zJ, zJ] [] s (zKi K))) : zt l g (d + 1) M_X8_partedAt 16 [.ref 164, zJ, .int x2, .int x3, .int x4, .int x5, .int x6, zJ, zJ, zJ] [] s (zKi K) := by
  refine z_iload dX8_partedAt_16 rfl rfl ?_
  refine z_aload_n (i := 0) dX8_partedAt_18 rfl rfl rfl ?_
  refine z_getI (x := s.1 164 19) rfl f_X8_183 i_164 rfl dX8_partedAt_19 rfl ?_
  refine z_icmp_ge (pt := 140) dX8_partedAt_22 (by decide) rfl (fun c => ?_) (fun c => ?_)
  · have h := zit h c
    refine z_iload dX8_partedAt_140 rfl rfl ?_
    exact z_ret (some (.int x5)) (Or.inr (Or.inl ⟨_, _, rfl, rfl, rfl, dX8_partedAt_142⟩)) zN200 ⟨_, rfl, h⟩
  · have h := zif h c
    refine z_iconst (v := (0 : Int32)) dX8_partedAt_25 (by decide) rfl ?_
    refine z_istore dX8_partedAt_26 (by decide) (zokd rfl) rfl ?_
    show zt l g (d + 1) M_X8_partedAt 28 [.ref 164, zJ, .int x2, .int x3, .int x4, .int x5, .int x6, .int (0 : Int32), zJ, zJ] [] s _
    exact h
set_option maxHeartbeats 4000000 in
set_option maxRecDepth 100000 in
theorem t_X8_partedAt_28 {l : Launch} {g : zG} {d : Nat} {s : zS} (hR : zRok s) {x2 : Int32} {x3 : Int32} {x4 : Int32} {x5 : Int32} {x6 : Int32} {x7 : Int32} {K : Int32 → zS → Prop} (h : (if x6 ≤ x7 then zt l g (d + 1) M_X8_partedAt 16 [.ref 164, zJ, .int x2, .int x3, .int x4, .int x5, .int (x6 + (1 : Int32)), zJ, zJ, zJ] [] s (zKi K) else (if ((x2 >>> (x6 &&& 31)) &&& (1 : Int32)) = 0 then zt l g (d + 1) M_X8_partedAt 28 [.ref 164, zJ, .int x2, .int x3, .int x4, .int x5, .int x6, .int (x7 + (1 : Int32)), zJ, zJ] [] s (zKi K) else (if ((x2 >>> (x7 &&& 31)) &&& (1 : Int32)) = 0 then zt l g (d + 1) M_X8_partedAt 28 [.ref 164, zJ, .int x2, .int x3, .int x4, .int x5, .int x6, .int (x7 + (1 : Int32)), zJ, zJ] [] s (zKi K) else (zc l g d M_X8_isShown [.ref 164, .int x6, .int x4, .int x3] s (zKz (fun b2 s1 => s1.2.2.1 = s.2.2.1 ∧ (zc l g d M_X8_isShown [.ref 164, .int x7, .int x4, .int x3] s1 (zKz (fun b4 s3 => s3.2.2.1 = s1.2.2.1 ∧ (if (zb b2) = (zb b4) then (if b2 = true then (zc l g d M_X8_way [.ref 164, .int x6, .int x4, .int x3] s3 (zKi (fun r6 s5 => s5.2.2.1 = s3.2.2.1 ∧ (zc l g d M_X8_way [.ref 164, .int x7, .int x4, .int x3] s5 (zKi (fun r8 s7 => s7.2.2.1 = s5.2.2.1 ∧ (zc l g d M_X8_apart [.int r6, .int r8] s7 (zKi (fun r10 s9 => s9.2.2.1 = s7.2.2.1 ∧ (if r10 ≤ (s9.1 164 25) then zt l g (d + 1) M_X8_partedAt 28 [.ref 164, zJ, .int x2, .int x3, .int x4, .int (x5 + (0 : Int32)), .int x6, .int (x7 + (1 : Int32)), zJ, zJ] [] s9 (zKi K) else zt l g (d + 1) M_X8_partedAt 28 [.ref 164, zJ, .int x2, .int x3, .int x4, .int (x5 + (1 : Int32)), .int x6, .int (x7 + (1 : Int32)), zJ, zJ] [] s9 (zKi K))))))))))) else zt l g (d + 1) M_X8_partedAt 28 [.ref 164, zJ, .int x2, .int x3, .int x4, .int (x5 + (0 : Int32)), .int x6, .int (x7 + (1 : Int32)), zJ, zJ] [] s3 (zKi K)) else zt l g (d + 1) M_X8_partedAt 28 [.ref 164, zJ, .int x2, .int x3, .int x4, .int (x5 + (1 : Int32)), .int x6, .int (x7 + (1 : Int32)), zJ, zJ] [] s3 (zKi K)))))))))))) : zt l g (d + 1) M_X8_partedAt 28 [.ref 164, zJ, .int x2, .int x3, .int x4, .int x5, .int x6, .int x7, zJ, zJ] [] s (zKi K) := by
  refine z_iload dX8_partedAt_28 rfl rfl ?_
  refine z_iload dX8_partedAt_30 rfl rfl ?_
  refine z_icmp_ge (pt := 134) dX8_partedAt_32 (by decide) rfl (fun c => ?_) (fun c => ?_)
  · have h := zit h c
    refine z_iinc (v := x6 + (1 : Int32)) dX8_partedAt_134 rfl rfl (by decide) (zokd rfl) rfl ?_
    show zt l g (d + 1) M_X8_partedAt 137 [.ref 164, zJ, .int x2, .int x3, .int x4, .int x5, .int (x6 + (1 : Int32)), .int x7, zJ, zJ] [] s _
    refine z_goto (pn := 16) dX8_partedAt_137 (by decide) ?_
    refine z_wk (ls' := [.ref 164, zJ, .int x2, .int x3, .int x4, .int x5, .int (x6 + (1 : Int32)), zJ, zJ, zJ]) ⟨Or.inr rfl, Or.inr rfl, Or.inr rfl, Or.inr rfl, Or.inr rfl, Or.inr rfl, Or.inr rfl, Or.inl rfl, Or.inr rfl, Or.inr rfl, trivial⟩ ?_
    exact h
  · have h := zif h c
    refine z_iload_n (i := 2) dX8_partedAt_35 rfl rfl rfl ?_
    refine z_iload dX8_partedAt_36 rfl rfl ?_
    refine z_ishr dX8_partedAt_38 rfl ?_
    refine z_iconst (v := (1 : Int32)) dX8_partedAt_39 (by decide) rfl ?_
    refine z_iand dX8_partedAt_40 rfl ?_
    refine z_if_eq (pt := 128) dX8_partedAt_41 (by decide) rfl (fun c => ?_) (fun c => ?_)
    · have h := zit h c
      refine z_iinc (v := x7 + (1 : Int32)) dX8_partedAt_128 rfl rfl (by decide) (zokd rfl) rfl ?_
      show zt l g (d + 1) M_X8_partedAt 131 [.ref 164, zJ, .int x2, .int x3, .int x4, .int x5, .int x6, .int (x7 + (1 : Int32)), zJ, zJ] [] s _
      refine z_goto (pn := 28) dX8_partedAt_131 (by decide) ?_
      exact h
    · have h := zif h c
      refine z_iload_n (i := 2) dX8_partedAt_44 rfl rfl rfl ?_
      refine z_iload dX8_partedAt_45 rfl rfl ?_
      refine z_ishr dX8_partedAt_47 rfl ?_
      refine z_iconst (v := (1 : Int32)) dX8_partedAt_48 (by decide) rfl ?_
      refine z_iand dX8_partedAt_49 rfl ?_
      refine z_if_ne (pt := 56) dX8_partedAt_50 (by decide) rfl (fun c => ?_) (fun c => ?_)
      · have h := zif h c
        refine z_aload_n (i := 0) dX8_partedAt_56 rfl rfl rfl ?_
        refine z_iload dX8_partedAt_57 rfl rfl ?_
        refine z_iload dX8_partedAt_59 rfl rfl ?_
        refine z_iload_n (i := 3) dX8_partedAt_61 rfl rfl rfl ?_
        refine z_callV k_X8_isShown m_X8_255 (zRec_of i_164) rfl h rfl (Nat.le_of_ble_eq_true rfl) dX8_partedAt_62 zy200 rfl ?_
        rintro v s1 ⟨b2, rfl, hRs1, h⟩
        show zt l g (d + 1) M_X8_partedAt 65 [.ref 164, zJ, .int x2, .int x3, .int x4, .int x5, .int x6, .int x7, zJ, zJ] [.int (zb b2)] s1 _
        refine z_istore dX8_partedAt_65 (by decide) (zokd rfl) rfl ?_
        show zt l g (d + 1) M_X8_partedAt 67 [.ref 164, zJ, .int x2, .int x3, .int x4, .int x5, .int x6, .int x7, .int (zb b2), zJ] [] s1 _
        refine z_aload_n (i := 0) dX8_partedAt_67 rfl rfl rfl ?_
        refine z_iload dX8_partedAt_68 rfl rfl ?_
        refine z_iload dX8_partedAt_70 rfl rfl ?_
        refine z_iload_n (i := 3) dX8_partedAt_72 rfl rfl rfl ?_
        refine z_callV k_X8_isShown m_X8_255 (zRec_of i_164) rfl h rfl (Nat.le_of_ble_eq_true rfl) dX8_partedAt_73 zy200 rfl ?_
        rintro v s3 ⟨b4, rfl, hRs3, h⟩
        show zt l g (d + 1) M_X8_partedAt 76 [.ref 164, zJ, .int x2, .int x3, .int x4, .int x5, .int x6, .int x7, .int (zb b2), zJ] [.int (zb b4)] s3 _
        refine z_istore dX8_partedAt_76 (by decide) (zokd rfl) rfl ?_
        show zt l g (d + 1) M_X8_partedAt 78 [.ref 164, zJ, .int x2, .int x3, .int x4, .int x5, .int x6, .int x7, .int (zb b2), .int (zb b4)] [] s3 _
        refine z_iload dX8_partedAt_78 rfl rfl ?_
        refine z_iload dX8_partedAt_80 rfl rfl ?_
        refine z_iload dX8_partedAt_82 rfl rfl ?_
        refine z_icmp_ne (pt := 120) dX8_partedAt_84 (by decide) rfl (fun c => ?_) (fun c => ?_)
        · have h := zif h c
          refine z_iconst (v := (1 : Int32)) dX8_partedAt_120 (by decide) rfl ?_
          refine z_goto (pn := 125) dX8_partedAt_121 (by decide) ?_
          refine z_iadd dX8_partedAt_125 rfl ?_
          refine z_istore dX8_partedAt_126 (by decide) (zokd rfl) rfl ?_
          show zt l g (d + 1) M_X8_partedAt 128 [.ref 164, zJ, .int x2, .int x3, .int x4, .int (x5 + (1 : Int32)), .int x6, .int x7, .int (zb b2), .int (zb b4)] [] s3 _
          refine z_iinc (v := x7 + (1 : Int32)) dX8_partedAt_128 rfl rfl (by decide) (zokd rfl) rfl ?_
          show zt l g (d + 1) M_X8_partedAt 131 [.ref 164, zJ, .int x2, .int x3, .int x4, .int (x5 + (1 : Int32)), .int x6, .int (x7 + (1 : Int32)), .int (zb b2), .int (zb b4)] [] s3 _
          refine z_goto (pn := 28) dX8_partedAt_131 (by decide) ?_
          refine z_wk (ls' := [.ref 164, zJ, .int x2, .int x3, .int x4, .int (x5 + (1 : Int32)), .int x6, .int (x7 + (1 : Int32)), zJ, zJ]) ⟨Or.inr rfl, Or.inr rfl, Or.inr rfl, Or.inr rfl, Or.inr rfl, Or.inr rfl, Or.inr rfl, Or.inr rfl, Or.inl rfl, Or.inl rfl, trivial⟩ ?_
          exact h
        · have h := zit h c
          refine z_iload dX8_partedAt_87 rfl rfl ?_
          refine z_ifb_eq (pt := 124) dX8_partedAt_89 (by decide) rfl (fun c => ?_) (fun c => ?_)
          · have h := zif h (by rw [c]; exact Bool.false_ne_true)
            refine z_iconst (v := (0 : Int32)) dX8_partedAt_124 (by decide) rfl ?_
            refine z_iadd dX8_partedAt_125 rfl ?_
            refine z_istore dX8_partedAt_126 (by decide) (zokd rfl) rfl ?_
            show zt l g (d + 1) M_X8_partedAt 128 [.ref 164, zJ, .int x2, .int x3, .int x4, .int (x5 + (0 : Int32)), .int x6, .int x7, .int (zb b2), .int (zb b4)] [] s3 _
            refine z_iinc (v := x7 + (1 : Int32)) dX8_partedAt_128 rfl rfl (by decide) (zokd rfl) rfl ?_
            show zt l g (d + 1) M_X8_partedAt 131 [.ref 164, zJ, .int x2, .int x3, .int x4, .int (x5 + (0 : Int32)), .int x6, .int (x7 + (1 : Int32)), .int (zb b2), .int (zb b4)] [] s3 _
            refine z_goto (pn := 28) dX8_partedAt_131 (by decide) ?_
            refine z_wk (ls' := [.ref 164, zJ, .int x2, .int x3, .int x4, .int (x5 + (0 : Int32)), .int x6, .int (x7 + (1 : Int32)), zJ, zJ]) ⟨Or.inr rfl, Or.inr rfl, Or.inr rfl, Or.inr rfl, Or.inr rfl, Or.inr rfl, Or.inr rfl, Or.inr rfl, Or.inl rfl, Or.inl rfl, trivial⟩ ?_
            exact h
          · have h := zit h c
            refine z_aload_n (i := 0) dX8_partedAt_92 rfl rfl rfl ?_
            refine z_iload dX8_partedAt_93 rfl rfl ?_
            refine z_iload dX8_partedAt_95 rfl rfl ?_
            refine z_iload_n (i := 3) dX8_partedAt_97 rfl rfl rfl ?_
            refine z_callV k_X8_way m_X8_259 (zRec_of i_164) rfl h rfl (Nat.le_of_ble_eq_true rfl) dX8_partedAt_98 zy200 rfl ?_
            rintro v s5 ⟨r6, rfl, hRs5, h⟩
            show zt l g (d + 1) M_X8_partedAt 101 [.ref 164, zJ, .int x2, .int x3, .int x4, .int x5, .int x6, .int x7, .int (zb b2), .int (zb b4)] [.int r6, .int x5] s5 _
            refine z_aload_n (i := 0) dX8_partedAt_101 rfl rfl rfl ?_
            refine z_iload dX8_partedAt_102 rfl rfl ?_
            refine z_iload dX8_partedAt_104 rfl rfl ?_
            refine z_iload_n (i := 3) dX8_partedAt_106 rfl rfl rfl ?_
            refine z_callV k_X8_way m_X8_259 (zRec_of i_164) rfl h rfl (Nat.le_of_ble_eq_true rfl) dX8_partedAt_107 zy200 rfl ?_
            rintro v s7 ⟨r8, rfl, hRs7, h⟩
            show zt l g (d + 1) M_X8_partedAt 110 [.ref 164, zJ, .int x2, .int x3, .int x4, .int x5, .int x6, .int x7, .int (zb b2), .int (zb b4)] [.int r8, .int r6, .int x5] s7 _
            refine z_callS (as := [.int r6, .int r8]) k_X8_apart m_X8_282 rfl h rfl (Nat.le_of_ble_eq_true rfl) dX8_partedAt_110 zy200 rfl ?_
            rintro v s9 ⟨r10, rfl, hRs9, h⟩
            show zt l g (d + 1) M_X8_partedAt 113 [.ref 164, zJ, .int x2, .int x3, .int x4, .int x5, .int x6, .int x7, .int (zb b2), .int (zb b4)] [.int r10, .int x5] s9 _
            refine z_aload_n (i := 0) dX8_partedAt_113 rfl rfl rfl ?_
            refine z_getI (x := s9.1 164 25) rfl f_X8_66 i_164 rfl dX8_partedAt_114 rfl ?_
            refine z_icmp_le (pt := 124) dX8_partedAt_117 (by decide) rfl (fun c => ?_) (fun c => ?_)
            · have h := zit h c
              refine z_iconst (v := (0 : Int32)) dX8_partedAt_124 (by decide) rfl ?_
              refine z_iadd dX8_partedAt_125 rfl ?_
              refine z_istore dX8_partedAt_126 (by decide) (zokd rfl) rfl ?_
              show zt l g (d + 1) M_X8_partedAt 128 [.ref 164, zJ, .int x2, .int x3, .int x4, .int (x5 + (0 : Int32)), .int x6, .int x7, .int (zb b2), .int (zb b4)] [] s9 _
              refine z_iinc (v := x7 + (1 : Int32)) dX8_partedAt_128 rfl rfl (by decide) (zokd rfl) rfl ?_
              show zt l g (d + 1) M_X8_partedAt 131 [.ref 164, zJ, .int x2, .int x3, .int x4, .int (x5 + (0 : Int32)), .int x6, .int (x7 + (1 : Int32)), .int (zb b2), .int (zb b4)] [] s9 _
              refine z_goto (pn := 28) dX8_partedAt_131 (by decide) ?_
              refine z_wk (ls' := [.ref 164, zJ, .int x2, .int x3, .int x4, .int (x5 + (0 : Int32)), .int x6, .int (x7 + (1 : Int32)), zJ, zJ]) ⟨Or.inr rfl, Or.inr rfl, Or.inr rfl, Or.inr rfl, Or.inr rfl, Or.inr rfl, Or.inr rfl, Or.inr rfl, Or.inl rfl, Or.inl rfl, trivial⟩ ?_
              exact h
            · have h := zif h c
              refine z_iconst (v := (1 : Int32)) dX8_partedAt_120 (by decide) rfl ?_
              refine z_goto (pn := 125) dX8_partedAt_121 (by decide) ?_
              refine z_iadd dX8_partedAt_125 rfl ?_
              refine z_istore dX8_partedAt_126 (by decide) (zokd rfl) rfl ?_
              show zt l g (d + 1) M_X8_partedAt 128 [.ref 164, zJ, .int x2, .int x3, .int x4, .int (x5 + (1 : Int32)), .int x6, .int x7, .int (zb b2), .int (zb b4)] [] s9 _
              refine z_iinc (v := x7 + (1 : Int32)) dX8_partedAt_128 rfl rfl (by decide) (zokd rfl) rfl ?_
              show zt l g (d + 1) M_X8_partedAt 131 [.ref 164, zJ, .int x2, .int x3, .int x4, .int (x5 + (1 : Int32)), .int x6, .int (x7 + (1 : Int32)), .int (zb b2), .int (zb b4)] [] s9 _
              refine z_goto (pn := 28) dX8_partedAt_131 (by decide) ?_
              refine z_wk (ls' := [.ref 164, zJ, .int x2, .int x3, .int x4, .int (x5 + (1 : Int32)), .int x6, .int (x7 + (1 : Int32)), zJ, zJ]) ⟨Or.inr rfl, Or.inr rfl, Or.inr rfl, Or.inr rfl, Or.inr rfl, Or.inr rfl, Or.inr rfl, Or.inr rfl, Or.inl rfl, Or.inl rfl, trivial⟩ ?_
              exact h
      · have h := zit h c
        refine z_goto (pn := 128) dX8_partedAt_53 (by decide) ?_
        refine z_iinc (v := x7 + (1 : Int32)) dX8_partedAt_128 rfl rfl (by decide) (zokd rfl) rfl ?_
        show zt l g (d + 1) M_X8_partedAt 131 [.ref 164, zJ, .int x2, .int x3, .int x4, .int x5, .int x6, .int (x7 + (1 : Int32)), zJ, zJ] [] s _
        refine z_goto (pn := 28) dX8_partedAt_131 (by decide) ?_
        exact h
theorem dX8_ask_0 : decode cX8_ask 0 = .ok (.iload_n 1, 1) := by decide +kernel
theorem dX8_ask_1 : decode cX8_ask 1 = .ok (.i2l, 1) := by decide +kernel
theorem dX8_ask_2 : decode cX8_ask 2 = .ok (.lconst 0, 1) := by decide +kernel
theorem dX8_ask_3 : decode cX8_ask 3 = .ok (.ldc2_w 317, 3) := by decide +kernel
theorem dX8_ask_6 : decode cX8_ask 6 = .ok (.invokestatic 147, 3) := by decide +kernel
theorem dX8_ask_9 : decode cX8_ask 9 = .ok (.ifCond .ne 5, 3) := by decide +kernel
theorem dX8_ask_12 : decode cX8_ask 12 = .ok (.iconst (-1), 1) := by decide +kernel
theorem dX8_ask_13 : decode cX8_ask 13 = .ok (.ireturn, 1) := by decide +kernel
theorem dX8_ask_14 : decode cX8_ask 14 = .ok (.iconst (-1), 1) := by decide +kernel
theorem dX8_ask_15 : decode cX8_ask 15 = .ok (.istore_n 2, 1) := by decide +kernel
theorem dX8_ask_16 : decode cX8_ask 16 = .ok (.iconst (-1), 1) := by decide +kernel
theorem dX8_ask_17 : decode cX8_ask 17 = .ok (.istore_n 3, 1) := by decide +kernel
theorem dX8_ask_18 : decode cX8_ask 18 = .ok (.iconst 0, 1) := by decide +kernel
theorem dX8_ask_19 : decode cX8_ask 19 = .ok (.istore 4, 2) := by decide +kernel
theorem dX8_ask_21 : decode cX8_ask 21 = .ok (.iconst 0, 1) := by decide +kernel
theorem dX8_ask_22 : decode cX8_ask 22 = .ok (.istore 5, 2) := by decide +kernel
theorem dX8_ask_24 : decode cX8_ask 24 = .ok (.iload 5, 2) := by decide +kernel
theorem dX8_ask_26 : decode cX8_ask 26 = .ok (.aload_n 0, 1) := by decide +kernel
theorem dX8_ask_27 : decode cX8_ask 27 = .ok (.getfield 270, 3) := by decide +kernel
theorem dX8_ask_30 : decode cX8_ask 30 = .ok (.if_icmp .ge 80, 3) := by decide +kernel
theorem dX8_ask_33 : decode cX8_ask 33 = .ok (.aload_n 0, 1) := by decide +kernel
theorem dX8_ask_34 : decode cX8_ask 34 = .ok (.iload 5, 2) := by decide +kernel
theorem dX8_ask_36 : decode cX8_ask 36 = .ok (.invokevirtual 289, 3) := by decide +kernel
theorem dX8_ask_39 : decode cX8_ask 39 = .ok (.istore 6, 2) := by decide +kernel
theorem dX8_ask_41 : decode cX8_ask 41 = .ok (.aload_n 0, 1) := by decide +kernel
theorem dX8_ask_42 : decode cX8_ask 42 = .ok (.getfield 63, 3) := by decide +kernel
theorem dX8_ask_45 : decode cX8_ask 45 = .ok (.iload 5, 2) := by decide +kernel
theorem dX8_ask_47 : decode cX8_ask 47 = .ok (.aaload, 1) := by decide +kernel
theorem dX8_ask_48 : decode cX8_ask 48 = .ok (.iconst 1, 1) := by decide +kernel
theorem dX8_ask_49 : decode cX8_ask 49 = .ok (.iaload, 1) := by decide +kernel
theorem dX8_ask_50 : decode cX8_ask 50 = .ok (.istore 7, 2) := by decide +kernel
theorem dX8_ask_52 : decode cX8_ask 52 = .ok (.iload 7, 2) := by decide +kernel
theorem dX8_ask_54 : decode cX8_ask 54 = .ok (.aload_n 0, 1) := by decide +kernel
theorem dX8_ask_55 : decode cX8_ask 55 = .ok (.getfield 63, 3) := by decide +kernel
theorem dX8_ask_58 : decode cX8_ask 58 = .ok (.iload 5, 2) := by decide +kernel
theorem dX8_ask_60 : decode cX8_ask 60 = .ok (.aaload, 1) := by decide +kernel
theorem dX8_ask_61 : decode cX8_ask 61 = .ok (.iconst 2, 1) := by decide +kernel
theorem dX8_ask_62 : decode cX8_ask 62 = .ok (.iaload, 1) := by decide +kernel
theorem dX8_ask_63 : decode cX8_ask 63 = .ok (.if_icmp .gt 41, 3) := by decide +kernel
theorem dX8_ask_66 : decode cX8_ask 66 = .ok (.aload_n 0, 1) := by decide +kernel
theorem dX8_ask_67 : decode cX8_ask 67 = .ok (.iload 5, 2) := by decide +kernel
theorem dX8_ask_69 : decode cX8_ask 69 = .ok (.iload 6, 2) := by decide +kernel
theorem dX8_ask_71 : decode cX8_ask 71 = .ok (.iload 7, 2) := by decide +kernel
theorem dX8_ask_73 : decode cX8_ask 73 = .ok (.invokevirtual 319, 3) := by decide +kernel
theorem dX8_ask_76 : decode cX8_ask 76 = .ok (.istore 8, 2) := by decide +kernel
theorem dX8_ask_78 : decode cX8_ask 78 = .ok (.iload 8, 2) := by decide +kernel
theorem dX8_ask_80 : decode cX8_ask 80 = .ok (.iload 4, 2) := by decide +kernel
theorem dX8_ask_82 : decode cX8_ask 82 = .ok (.if_icmp .gt 6, 3) := by decide +kernel
theorem dX8_ask_85 : decode cX8_ask 85 = .ok (.goto 13, 3) := by decide +kernel
theorem dX8_ask_88 : decode cX8_ask 88 = .ok (.iload 5, 2) := by decide +kernel
theorem dX8_ask_90 : decode cX8_ask 90 = .ok (.istore_n 2, 1) := by decide +kernel
theorem dX8_ask_91 : decode cX8_ask 91 = .ok (.iload 7, 2) := by decide +kernel
theorem dX8_ask_93 : decode cX8_ask 93 = .ok (.istore_n 3, 1) := by decide +kernel
theorem dX8_ask_94 : decode cX8_ask 94 = .ok (.iload 8, 2) := by decide +kernel
theorem dX8_ask_96 : decode cX8_ask 96 = .ok (.istore 4, 2) := by decide +kernel
theorem dX8_ask_98 : decode cX8_ask 98 = .ok (.iinc 7 1, 3) := by decide +kernel
theorem dX8_ask_101 : decode cX8_ask 101 = .ok (.goto (-49), 3) := by decide +kernel
theorem dX8_ask_104 : decode cX8_ask 104 = .ok (.iinc 5 1, 3) := by decide +kernel
theorem dX8_ask_107 : decode cX8_ask 107 = .ok (.goto (-83), 3) := by decide +kernel
theorem dX8_ask_110 : decode cX8_ask 110 = .ok (.iload_n 2, 1) := by decide +kernel
theorem dX8_ask_111 : decode cX8_ask 111 = .ok (.iconst (-1), 1) := by decide +kernel
theorem dX8_ask_112 : decode cX8_ask 112 = .ok (.if_icmp .ne 7, 3) := by decide +kernel
theorem dX8_ask_115 : decode cX8_ask 115 = .ok (.iconst (-1), 1) := by decide +kernel
theorem dX8_ask_116 : decode cX8_ask 116 = .ok (.goto 22, 3) := by decide +kernel
theorem dX8_ask_119 : decode cX8_ask 119 = .ok (.iload_n 1, 1) := by decide +kernel
theorem dX8_ask_120 : decode cX8_ask 120 = .ok (.ifCond .ne 7, 3) := by decide +kernel
theorem dX8_ask_123 : decode cX8_ask 123 = .ok (.iload_n 2, 1) := by decide +kernel
theorem dX8_ask_124 : decode cX8_ask 124 = .ok (.goto 14, 3) := by decide +kernel
theorem dX8_ask_127 : decode cX8_ask 127 = .ok (.iload_n 1, 1) := by decide +kernel
theorem dX8_ask_128 : decode cX8_ask 128 = .ok (.iconst 1, 1) := by decide +kernel
theorem dX8_ask_129 : decode cX8_ask 129 = .ok (.if_icmp .ne 7, 3) := by decide +kernel
theorem dX8_ask_132 : decode cX8_ask 132 = .ok (.iload_n 3, 1) := by decide +kernel
theorem dX8_ask_133 : decode cX8_ask 133 = .ok (.goto 5, 3) := by decide +kernel
theorem dX8_ask_136 : decode cX8_ask 136 = .ok (.iload 4, 2) := by decide +kernel
theorem dX8_ask_138 : decode cX8_ask 138 = .ok (.ireturn, 1) := by decide +kernel
set_option maxHeartbeats 4000000 in
set_option maxRecDepth 100000 in
theorem t_X8_ask {l : Launch} {g : zG} {d : Nat} {s : zS} (hR : zRok s) {p0 : Int32} {K : Int32 → zS → Prop} (h : (if (zinr p0.toInt64 (0 : Int64) (2 : Int64)) = true then zt l g (d + 1) M_X8_ask 24 [.ref 164, .int p0, .int (-1 : Int32), .int (-1 : Int32), .int (0 : Int32), .int (0 : Int32), zJ, zJ, zJ] [] s (zKi K) else K (-1 : Int32) s)) : zc l g (d + 1) M_X8_ask [.ref 164, .int p0] s (zKi K) := by
  refine zCall_of k_X8_ask (Nat.le_of_ble_eq_true rfl) (Nat.le_refl _) (fun _ => ?_)
  show zt l g (d + 1) M_X8_ask 0 [.ref 164, .int p0, zJ, zJ, zJ, zJ, zJ, zJ, zJ] [] s (zKi K)
  refine z_iload_n (i := 1) dX8_ask_0 rfl rfl rfl ?_
  refine z_i2l dX8_ask_1 rfl ?_
  refine z_lconst (v := (0 : Int64)) dX8_ask_2 (by decide) rfl ?_
  refine z_ldc2 (v := (2 : Int64)) q_X8_317 dX8_ask_3 rfl ?_
  refine z_in m_X8_147 dX8_ask_6 (Nat.le_of_ble_eq_true rfl) rfl ?_
  refine z_ifb_ne (pt := 14) dX8_ask_9 (by decide) rfl (fun c => ?_) (fun c => ?_)
  · have h := zit h c
    refine z_iconst (v := (-1 : Int32)) dX8_ask_14 (by decide) rfl ?_
    refine z_istore_n (i := 2) dX8_ask_15 rfl (by decide) (zokd rfl) rfl ?_
    show zt l g (d + 1) M_X8_ask 16 [.ref 164, .int p0, .int (-1 : Int32), zJ, zJ, zJ, zJ, zJ, zJ] [] s _
    refine z_iconst (v := (-1 : Int32)) dX8_ask_16 (by decide) rfl ?_
    refine z_istore_n (i := 3) dX8_ask_17 rfl (by decide) (zokd rfl) rfl ?_
    show zt l g (d + 1) M_X8_ask 18 [.ref 164, .int p0, .int (-1 : Int32), .int (-1 : Int32), zJ, zJ, zJ, zJ, zJ] [] s _
    refine z_iconst (v := (0 : Int32)) dX8_ask_18 (by decide) rfl ?_
    refine z_istore dX8_ask_19 (by decide) (zokd rfl) rfl ?_
    show zt l g (d + 1) M_X8_ask 21 [.ref 164, .int p0, .int (-1 : Int32), .int (-1 : Int32), .int (0 : Int32), zJ, zJ, zJ, zJ] [] s _
    refine z_iconst (v := (0 : Int32)) dX8_ask_21 (by decide) rfl ?_
    refine z_istore dX8_ask_22 (by decide) (zokd rfl) rfl ?_
    show zt l g (d + 1) M_X8_ask 24 [.ref 164, .int p0, .int (-1 : Int32), .int (-1 : Int32), .int (0 : Int32), .int (0 : Int32), zJ, zJ, zJ] [] s _
    exact h
  · have h := zif h (by rw [c]; exact Bool.false_ne_true)
    refine z_iconst (v := (-1 : Int32)) dX8_ask_12 (by decide) rfl ?_
    exact z_ret (some (.int (-1 : Int32))) (Or.inr (Or.inl ⟨_, _, rfl, rfl, rfl, dX8_ask_13⟩)) zN200 ⟨_, rfl, h⟩
set_option maxHeartbeats 4000000 in
set_option maxRecDepth 100000 in
theorem t_X8_ask_24 {l : Launch} {g : zG} {d : Nat} {s : zS} (hR : zRok s) {x1 : Int32} {x2 : Int32} {x3 : Int32} {x4 : Int32} {x5 : Int32} {K : Int32 → zS → Prop} (h : (if (s.1 164 24) ≤ x5 then (if x2 = (-1 : Int32) then K (-1 : Int32) s else (if x1 = 0 then K x2 s else (if x1 = (1 : Int32) then K x3 s else K x4 s))) else (zc l g d M_X8_fitting [.ref 164, .int x5] s (zKi (fun r2 s1 => s1.2.2.1 = s.2.2.1 ∧ (vp_in x5 60 ∧ (∀ v4 : Int32, v4 = s1.1 (183 + x5.toNatClampNeg) 1 → zt l g (d + 1) M_X8_ask 52 [.ref 164, .int x1, .int x2, .int x3, .int x4, .int x5, .int r2, .int v4, zJ] [] s1 (zKi K)))))))) : zt l g (d + 1) M_X8_ask 24 [.ref 164, .int x1, .int x2, .int x3, .int x4, .int x5, zJ, zJ, zJ] [] s (zKi K) := by
  refine z_iload dX8_ask_24 rfl rfl ?_
  refine z_aload_n (i := 0) dX8_ask_26 rfl rfl rfl ?_
  refine z_getI (x := s.1 164 24) rfl f_X8_270 i_164 rfl dX8_ask_27 rfl ?_
  refine z_icmp_ge (pt := 110) dX8_ask_30 (by decide) rfl (fun c => ?_) (fun c => ?_)
  · have h := zit h c
    refine z_iload_n (i := 2) dX8_ask_110 rfl rfl rfl ?_
    refine z_iconst (v := (-1 : Int32)) dX8_ask_111 (by decide) rfl ?_
    refine z_icmp_ne (pt := 119) dX8_ask_112 (by decide) rfl (fun c => ?_) (fun c => ?_)
    · have h := zif h c
      refine z_iload_n (i := 1) dX8_ask_119 rfl rfl rfl ?_
      refine z_if_ne (pt := 127) dX8_ask_120 (by decide) rfl (fun c => ?_) (fun c => ?_)
      · have h := zif h c
        refine z_iload_n (i := 1) dX8_ask_127 rfl rfl rfl ?_
        refine z_iconst (v := (1 : Int32)) dX8_ask_128 (by decide) rfl ?_
        refine z_icmp_ne (pt := 136) dX8_ask_129 (by decide) rfl (fun c => ?_) (fun c => ?_)
        · have h := zif h c
          refine z_iload dX8_ask_136 rfl rfl ?_
          exact z_ret (some (.int x4)) (Or.inr (Or.inl ⟨_, _, rfl, rfl, rfl, dX8_ask_138⟩)) zN200 ⟨_, rfl, h⟩
        · have h := zit h c
          refine z_iload_n (i := 3) dX8_ask_132 rfl rfl rfl ?_
          refine z_goto (pn := 138) dX8_ask_133 (by decide) ?_
          exact z_ret (some (.int x3)) (Or.inr (Or.inl ⟨_, _, rfl, rfl, rfl, dX8_ask_138⟩)) zN200 ⟨_, rfl, h⟩
      · have h := zit h c
        refine z_iload_n (i := 2) dX8_ask_123 rfl rfl rfl ?_
        refine z_goto (pn := 138) dX8_ask_124 (by decide) ?_
        exact z_ret (some (.int x2)) (Or.inr (Or.inl ⟨_, _, rfl, rfl, rfl, dX8_ask_138⟩)) zN200 ⟨_, rfl, h⟩
    · have h := zit h c
      refine z_iconst (v := (-1 : Int32)) dX8_ask_115 (by decide) rfl ?_
      refine z_goto (pn := 138) dX8_ask_116 (by decide) ?_
      exact z_ret (some (.int (-1 : Int32))) (Or.inr (Or.inl ⟨_, _, rfl, rfl, rfl, dX8_ask_138⟩)) zN200 ⟨_, rfl, h⟩
  · have h := zif h c
    refine z_aload_n (i := 0) dX8_ask_33 rfl rfl rfl ?_
    refine z_iload dX8_ask_34 rfl rfl ?_
    refine z_callV k_X8_fitting m_X8_289 (zRec_of i_164) rfl h rfl (Nat.le_of_ble_eq_true rfl) dX8_ask_36 zy200 rfl ?_
    rintro v s1 ⟨r2, rfl, hRs1, h⟩
    show zt l g (d + 1) M_X8_ask 39 [.ref 164, .int x1, .int x2, .int x3, .int x4, .int x5, zJ, zJ, zJ] [.int r2] s1 _
    refine z_istore dX8_ask_39 (by decide) (zokd rfl) rfl ?_
    show zt l g (d + 1) M_X8_ask 41 [.ref 164, .int x1, .int x2, .int x3, .int x4, .int x5, .int r2, zJ, zJ] [] s1 _
    refine z_aload_n (i := 0) dX8_ask_41 rfl rfl rfl ?_
    refine z_getR (q := 182) f_X8_63 i_164 rfl (r_164_23 (zRok_of hRs1 hR)) (by decide) dX8_ask_42 rfl ?_
    refine z_iload dX8_ask_45 rfl rfl ?_
    obtain ⟨a3, h⟩ := h
    have wa3 := vin a3
    refine z_aald (q := 183 + x5.toNatClampNeg) (by decide) a_182 a3 (r_182 (zRok_of hRs1 hR) a3) (by omega) dX8_ask_47 rfl ?_
    refine z_iconst (v := (1 : Int32)) dX8_ask_48 (by decide) rfl ?_
    refine z_iald (x := s1.1 (183 + x5.toNatClampNeg) 1) rfl (a_row (p_182 a3)) (by unfold vp_in; decide) dX8_ask_49 rfl ?_
    refine z_istore dX8_ask_50 (by decide) (zokd rfl) rfl ?_
    obtain ⟨v4, ev4⟩ : ∃ x : Int32, x = s1.1 (183 + x5.toNatClampNeg) 1 := ⟨_, rfl⟩
    rw [← ev4]
    have h := h v4 ev4
    show zt l g (d + 1) M_X8_ask 52 [.ref 164, .int x1, .int x2, .int x3, .int x4, .int x5, .int r2, .int v4, zJ] [] s1 _
    exact h
set_option maxHeartbeats 4000000 in
set_option maxRecDepth 100000 in
theorem t_X8_ask_52 {l : Launch} {g : zG} {d : Nat} {s : zS} (hR : zRok s) {x1 : Int32} {x2 : Int32} {x3 : Int32} {x4 : Int32} {x5 : Int32} {x6 : Int32} {x7 : Int32} {K : Int32 → zS → Prop} (h : (vp_in x5 60 ∧ (if (s.1 (183 + x5.toNatClampNeg) 2) < x7 then zt l g (d + 1) M_X8_ask 24 [.ref 164, .int x1, .int x2, .int x3, .int x4, .int (x5 + (1 : Int32)), zJ, zJ, zJ] [] s (zKi K) else (zc l g d M_X8_partedAt [.ref 164, .int x5, .int x6, .int x7] s (zKi (fun r3 s2 => s2.2.2.1 = s.2.2.1 ∧ (if x4 < r3 then zt l g (d + 1) M_X8_ask 52 [.ref 164, .int x1, .int x5, .int x7, .int r3, .int x5, .int x6, .int (x7 + (1 : Int32)), zJ] [] s2 (zKi K) else zt l g (d + 1) M_X8_ask 52 [.ref 164, .int x1, .int x2, .int x3, .int x4, .int x5, .int x6, .int (x7 + (1 : Int32)), zJ] [] s2 (zKi K)))))))) : zt l g (d + 1) M_X8_ask 52 [.ref 164, .int x1, .int x2, .int x3, .int x4, .int x5, .int x6, .int x7, zJ] [] s (zKi K) := by
  refine z_iload dX8_ask_52 rfl rfl ?_
  refine z_aload_n (i := 0) dX8_ask_54 rfl rfl rfl ?_
  refine z_getR (q := 182) f_X8_63 i_164 rfl (r_164_23 hR) (by decide) dX8_ask_55 rfl ?_
  refine z_iload dX8_ask_58 rfl rfl ?_
  obtain ⟨a1, h⟩ := h
  have wa1 := vin a1
  refine z_aald (q := 183 + x5.toNatClampNeg) (by decide) a_182 a1 (r_182 hR a1) (by omega) dX8_ask_60 rfl ?_
  refine z_iconst (v := (2 : Int32)) dX8_ask_61 (by decide) rfl ?_
  refine z_iald (x := s.1 (183 + x5.toNatClampNeg) 2) rfl (a_row (p_182 a1)) (by unfold vp_in; decide) dX8_ask_62 rfl ?_
  refine z_icmp_gt (pt := 104) dX8_ask_63 (by decide) rfl (fun c => ?_) (fun c => ?_)
  · have h := zit h c
    refine z_iinc (v := x5 + (1 : Int32)) dX8_ask_104 rfl rfl (by decide) (zokd rfl) rfl ?_
    show zt l g (d + 1) M_X8_ask 107 [.ref 164, .int x1, .int x2, .int x3, .int x4, .int (x5 + (1 : Int32)), .int x6, .int x7, zJ] [] s _
    refine z_goto (pn := 24) dX8_ask_107 (by decide) ?_
    refine z_wk (ls' := [.ref 164, .int x1, .int x2, .int x3, .int x4, .int (x5 + (1 : Int32)), zJ, zJ, zJ]) ⟨Or.inr rfl, Or.inr rfl, Or.inr rfl, Or.inr rfl, Or.inr rfl, Or.inr rfl, Or.inl rfl, Or.inl rfl, Or.inr rfl, trivial⟩ ?_
    exact h
  · have h := zif h c
    refine z_aload_n (i := 0) dX8_ask_66 rfl rfl rfl ?_
    refine z_iload dX8_ask_67 rfl rfl ?_
    refine z_iload dX8_ask_69 rfl rfl ?_
    refine z_iload dX8_ask_71 rfl rfl ?_
    refine z_callV k_X8_partedAt m_X8_319 (zRec_of i_164) rfl h rfl (Nat.le_of_ble_eq_true rfl) dX8_ask_73 zy200 rfl ?_
    rintro v s2 ⟨r3, rfl, hRs2, h⟩
    show zt l g (d + 1) M_X8_ask 76 [.ref 164, .int x1, .int x2, .int x3, .int x4, .int x5, .int x6, .int x7, zJ] [.int r3] s2 _
    refine z_istore dX8_ask_76 (by decide) (zokd rfl) rfl ?_
    show zt l g (d + 1) M_X8_ask 78 [.ref 164, .int x1, .int x2, .int x3, .int x4, .int x5, .int x6, .int x7, .int r3] [] s2 _
    refine z_iload dX8_ask_78 rfl rfl ?_
    refine z_iload dX8_ask_80 rfl rfl ?_
    refine z_icmp_gt (pt := 88) dX8_ask_82 (by decide) rfl (fun c => ?_) (fun c => ?_)
    · have h := zit h c
      refine z_iload dX8_ask_88 rfl rfl ?_
      refine z_istore_n (i := 2) dX8_ask_90 rfl (by decide) (zokd rfl) rfl ?_
      show zt l g (d + 1) M_X8_ask 91 [.ref 164, .int x1, .int x5, .int x3, .int x4, .int x5, .int x6, .int x7, .int r3] [] s2 _
      refine z_iload dX8_ask_91 rfl rfl ?_
      refine z_istore_n (i := 3) dX8_ask_93 rfl (by decide) (zokd rfl) rfl ?_
      show zt l g (d + 1) M_X8_ask 94 [.ref 164, .int x1, .int x5, .int x7, .int x4, .int x5, .int x6, .int x7, .int r3] [] s2 _
      refine z_iload dX8_ask_94 rfl rfl ?_
      refine z_istore dX8_ask_96 (by decide) (zokd rfl) rfl ?_
      show zt l g (d + 1) M_X8_ask 98 [.ref 164, .int x1, .int x5, .int x7, .int r3, .int x5, .int x6, .int x7, .int r3] [] s2 _
      refine z_iinc (v := x7 + (1 : Int32)) dX8_ask_98 rfl rfl (by decide) (zokd rfl) rfl ?_
      show zt l g (d + 1) M_X8_ask 101 [.ref 164, .int x1, .int x5, .int x7, .int r3, .int x5, .int x6, .int (x7 + (1 : Int32)), .int r3] [] s2 _
      refine z_goto (pn := 52) dX8_ask_101 (by decide) ?_
      refine z_wk (ls' := [.ref 164, .int x1, .int x5, .int x7, .int r3, .int x5, .int x6, .int (x7 + (1 : Int32)), zJ]) ⟨Or.inr rfl, Or.inr rfl, Or.inr rfl, Or.inr rfl, Or.inr rfl, Or.inr rfl, Or.inr rfl, Or.inr rfl, Or.inl rfl, trivial⟩ ?_
      exact h
    · have h := zif h c
      refine z_goto (pn := 98) dX8_ask_85 (by decide) ?_
      refine z_iinc (v := x7 + (1 : Int32)) dX8_ask_98 rfl rfl (by decide) (zokd rfl) rfl ?_
      show zt l g (d + 1) M_X8_ask 101 [.ref 164, .int x1, .int x2, .int x3, .int x4, .int x5, .int x6, .int (x7 + (1 : Int32)), .int r3] [] s2 _
      refine z_goto (pn := 52) dX8_ask_101 (by decide) ?_
      refine z_wk (ls' := [.ref 164, .int x1, .int x2, .int x3, .int x4, .int x5, .int x6, .int (x7 + (1 : Int32)), zJ]) ⟨Or.inr rfl, Or.inr rfl, Or.inr rfl, Or.inr rfl, Or.inr rfl, Or.inr rfl, Or.inr rfl, Or.inr rfl, Or.inl rfl, trivial⟩ ?_
      exact h
theorem dX8_feeds_0 : decode cX8_feeds 0 = .ok (.iconst 3, 1) := by decide +kernel
theorem dX8_feeds_1 : decode cX8_feeds 1 = .ok (.istore_n 2, 1) := by decide +kernel
theorem dX8_feeds_2 : decode cX8_feeds 2 = .ok (.iload_n 2, 1) := by decide +kernel
theorem dX8_feeds_3 : decode cX8_feeds 3 = .ok (.ifCond .lt 35, 3) := by decide +kernel
theorem dX8_feeds_6 : decode cX8_feeds 6 = .ok (.aload_n 0, 1) := by decide +kernel
theorem dX8_feeds_7 : decode cX8_feeds 7 = .ok (.getfield 76, 3) := by decide +kernel
theorem dX8_feeds_10 : decode cX8_feeds 10 = .ok (.aload_n 0, 1) := by decide +kernel
theorem dX8_feeds_11 : decode cX8_feeds 11 = .ok (.getfield 322, 3) := by decide +kernel
theorem dX8_feeds_14 : decode cX8_feeds 14 = .ok (.iload_n 1, 1) := by decide +kernel
theorem dX8_feeds_15 : decode cX8_feeds 15 = .ok (.bipush 8, 2) := by decide +kernel
theorem dX8_feeds_17 : decode cX8_feeds 17 = .ok (.iload_n 2, 1) := by decide +kernel
theorem dX8_feeds_18 : decode cX8_feeds 18 = .ok (.imul, 1) := by decide +kernel
theorem dX8_feeds_19 : decode cX8_feeds 19 = .ok (.iushr, 1) := by decide +kernel
theorem dX8_feeds_20 : decode cX8_feeds 20 = .ok (.i2b, 1) := by decide +kernel
theorem dX8_feeds_21 : decode cX8_feeds 21 = .ok (.bastore, 1) := by decide +kernel
theorem dX8_feeds_22 : decode cX8_feeds 22 = .ok (.aload_n 0, 1) := by decide +kernel
theorem dX8_feeds_23 : decode cX8_feeds 23 = .ok (.dup, 1) := by decide +kernel
theorem dX8_feeds_24 : decode cX8_feeds 24 = .ok (.getfield 322, 3) := by decide +kernel
theorem dX8_feeds_27 : decode cX8_feeds 27 = .ok (.iconst 1, 1) := by decide +kernel
theorem dX8_feeds_28 : decode cX8_feeds 28 = .ok (.iadd, 1) := by decide +kernel
theorem dX8_feeds_29 : decode cX8_feeds 29 = .ok (.putfield 322, 3) := by decide +kernel
theorem dX8_feeds_32 : decode cX8_feeds 32 = .ok (.iinc 2 (-1), 3) := by decide +kernel
theorem dX8_feeds_35 : decode cX8_feeds 35 = .ok (.goto (-33), 3) := by decide +kernel
theorem dX8_feeds_38 : decode cX8_feeds 38 = .ok (.return_, 1) := by decide +kernel
set_option maxHeartbeats 4000000 in
set_option maxRecDepth 100000 in
theorem t_X8_feeds {l : Launch} {g : zG} {d : Nat} {s : zS} (hR : zRok s) {p0 : Int32} {K : zS → Prop} (h : zt l g d M_X8_feeds 2 [.ref 164, .int p0, .int (3 : Int32)] [] s (zKv K)) : zc l g d M_X8_feeds [.ref 164, .int p0] s (zKv K) := by
  refine zCall_of k_X8_feeds (Nat.le_of_ble_eq_true rfl) (Nat.le_refl _) (fun _ => ?_)
  show zt l g d M_X8_feeds 0 [.ref 164, .int p0, zJ] [] s (zKv K)
  refine z_iconst (v := (3 : Int32)) dX8_feeds_0 (by decide) rfl ?_
  refine z_istore_n (i := 2) dX8_feeds_1 rfl (by decide) (zokd rfl) rfl ?_
  show zt l g d M_X8_feeds 2 [.ref 164, .int p0, .int (3 : Int32)] [] s _
  exact h
set_option maxHeartbeats 4000000 in
set_option maxRecDepth 100000 in
theorem t_X8_feeds_2 {l : Launch} {g : zG} {d : Nat} {s : zS} (hR : zRok s) {x1 : Int32} {x2 : Int32} {K : zS → Prop} (h : (if x2 < 0 then K s else (vp_in (s.1 164 29) 400 ∧ zt l g d M_X8_feeds 2 [.ref 164, .int x1, .int (x2 - (1 : Int32))] [] (zI (zI s 244 ((s.1 164 29).toNatClampNeg) (((zushr x1 ((8 : Int32) * x2)).toInt8.toInt32).toInt8.toInt32)) 164 29 ((s.1 164 29) + (1 : Int32))) (zKv K)))) : zt l g d M_X8_feeds 2 [.ref 164, .int x1, .int x2] [] s (zKv K) := by
  refine z_iload_n (i := 2) dX8_feeds_2 rfl rfl rfl ?_
  refine z_if_lt (pt := 38) dX8_feeds_3 (by decide) rfl (fun c => ?_) (fun c => ?_)
  · have h := zit h c
    exact z_ret none (Or.inl ⟨rfl, rfl, dX8_feeds_38⟩) zN200 ⟨rfl, h⟩
  · have h := zif h c
    refine z_aload_n (i := 0) dX8_feeds_6 rfl rfl rfl ?_
    refine z_getR (q := 244) f_X8_76 i_164 rfl (r_164_28 hR) (by decide) dX8_feeds_7 rfl ?_
    refine z_aload_n (i := 0) dX8_feeds_10 rfl rfl rfl ?_
    refine z_getI (x := s.1 164 29) rfl f_X8_322 i_164 rfl dX8_feeds_11 rfl ?_
    refine z_iload_n (i := 1) dX8_feeds_14 rfl rfl rfl ?_
    refine z_bipush (v := (8 : Int32)) dX8_feeds_15 (by decide) rfl ?_
    refine z_iload_n (i := 2) dX8_feeds_17 rfl rfl rfl ?_
    refine z_imul dX8_feeds_18 rfl ?_
    refine z_iushr dX8_feeds_19 rfl ?_
    refine z_i2b dX8_feeds_20 rfl ?_
    obtain ⟨a1, h⟩ := h
    have wa1 := vin a1
    refine z_bast a_244 a1 rfl dX8_feeds_21 rfl ?_
    show zt l g d M_X8_feeds 22 [.ref 164, .int x1, .int x2] [] (zI s 244 ((s.1 164 29).toNatClampNeg) (((zushr x1 ((8 : Int32) * x2)).toInt8.toInt32).toInt8.toInt32)) _
    refine z_aload_n (i := 0) dX8_feeds_22 rfl rfl rfl ?_
    refine z_dup dX8_feeds_23 rfl rfl ?_
    refine z_getI (x := s.1 164 29) (zI_o (by decide)) f_X8_322 i_164 rfl dX8_feeds_24 rfl ?_
    refine z_iconst (v := (1 : Int32)) dX8_feeds_27 (by decide) rfl ?_
    refine z_iadd dX8_feeds_28 rfl ?_
    refine z_putI f_X8_322 i_164 rfl (Or.inl rfl) rfl rfl dX8_feeds_29 rfl ?_
    refine z_iinc (v := x2 - (1 : Int32)) dX8_feeds_32 rfl (zincn (by decide)) (by decide) (zokd rfl) rfl ?_
    show zt l g d M_X8_feeds 35 [.ref 164, .int x1, .int (x2 - (1 : Int32))] [] (zI (zI s 244 ((s.1 164 29).toNatClampNeg) (((zushr x1 ((8 : Int32) * x2)).toInt8.toInt32).toInt8.toInt32)) 164 29 ((s.1 164 29) + (1 : Int32))) _
    refine z_goto (pn := 2) dX8_feeds_35 (by decide) ?_
    exact h
theorem dX8_feed_0 : decode cX8_feed 0 = .ok (.aload_n 0, 1) := by decide +kernel
theorem dX8_feed_1 : decode cX8_feed 1 = .ok (.getfield 322, 3) := by decide +kernel
theorem dX8_feed_4 : decode cX8_feed 4 = .ok (.bipush 20, 2) := by decide +kernel
theorem dX8_feed_6 : decode cX8_feed 6 = .ok (.iadd, 1) := by decide +kernel
theorem dX8_feed_7 : decode cX8_feed 7 = .ok (.sipush 400, 3) := by decide +kernel
theorem dX8_feed_10 : decode cX8_feed 10 = .ok (.if_icmp .le 5, 3) := by decide +kernel
theorem dX8_feed_13 : decode cX8_feed 13 = .ok (.iconst (-1), 1) := by decide +kernel
theorem dX8_feed_14 : decode cX8_feed 14 = .ok (.ireturn, 1) := by decide +kernel
theorem dX8_feed_15 : decode cX8_feed 15 = .ok (.aload_n 0, 1) := by decide +kernel
theorem dX8_feed_16 : decode cX8_feed 16 = .ok (.iload_n 1, 1) := by decide +kernel
theorem dX8_feed_17 : decode cX8_feed 17 = .ok (.invokevirtual 325, 3) := by decide +kernel
theorem dX8_feed_20 : decode cX8_feed 20 = .ok (.aload_n 0, 1) := by decide +kernel
theorem dX8_feed_21 : decode cX8_feed 21 = .ok (.iload_n 2, 1) := by decide +kernel
theorem dX8_feed_22 : decode cX8_feed 22 = .ok (.invokevirtual 325, 3) := by decide +kernel
theorem dX8_feed_25 : decode cX8_feed 25 = .ok (.aload_n 0, 1) := by decide +kernel
theorem dX8_feed_26 : decode cX8_feed 26 = .ok (.iload_n 3, 1) := by decide +kernel
theorem dX8_feed_27 : decode cX8_feed 27 = .ok (.invokevirtual 325, 3) := by decide +kernel
theorem dX8_feed_30 : decode cX8_feed 30 = .ok (.aload_n 0, 1) := by decide +kernel
theorem dX8_feed_31 : decode cX8_feed 31 = .ok (.iload 4, 2) := by decide +kernel
theorem dX8_feed_33 : decode cX8_feed 33 = .ok (.invokevirtual 325, 3) := by decide +kernel
theorem dX8_feed_36 : decode cX8_feed 36 = .ok (.aload_n 0, 1) := by decide +kernel
theorem dX8_feed_37 : decode cX8_feed 37 = .ok (.iload 5, 2) := by decide +kernel
theorem dX8_feed_39 : decode cX8_feed 39 = .ok (.invokevirtual 325, 3) := by decide +kernel
theorem dX8_feed_42 : decode cX8_feed 42 = .ok (.aload_n 0, 1) := by decide +kernel
theorem dX8_feed_43 : decode cX8_feed 43 = .ok (.getfield 322, 3) := by decide +kernel
theorem dX8_feed_46 : decode cX8_feed 46 = .ok (.ireturn, 1) := by decide +kernel
set_option maxHeartbeats 4000000 in
set_option maxRecDepth 100000 in
theorem t_X8_feed {l : Launch} {g : zG} {d : Nat} {s : zS} (hR : zRok s) {p0 : Int32} {p1 : Int32} {p2 : Int32} {p3 : Int32} {p4 : Int32} {K : Int32 → zS → Prop} (h : (if ((s.1 164 29) + (20 : Int32)) ≤ (400 : Int32) then (zc l g d M_X8_feeds [.ref 164, .int p0] s (zKv (fun s1 => s1.2.2.1 = s.2.2.1 ∧ (zc l g d M_X8_feeds [.ref 164, .int p1] s1 (zKv (fun s2 => s2.2.2.1 = s1.2.2.1 ∧ (zc l g d M_X8_feeds [.ref 164, .int p2] s2 (zKv (fun s3 => s3.2.2.1 = s2.2.2.1 ∧ (zc l g d M_X8_feeds [.ref 164, .int p3] s3 (zKv (fun s4 => s4.2.2.1 = s3.2.2.1 ∧ (zc l g d M_X8_feeds [.ref 164, .int p4] s4 (zKv (fun s5 => s5.2.2.1 = s4.2.2.1 ∧ K (s5.1 164 29) s5))))))))))))))) else K (-1 : Int32) s)) : zc l g (d + 1) M_X8_feed [.ref 164, .int p0, .int p1, .int p2, .int p3, .int p4] s (zKi K) := by
  refine zCall_of k_X8_feed (Nat.le_of_ble_eq_true rfl) (Nat.le_refl _) (fun _ => ?_)
  show zt l g (d + 1) M_X8_feed 0 [.ref 164, .int p0, .int p1, .int p2, .int p3, .int p4] [] s (zKi K)
  refine z_aload_n (i := 0) dX8_feed_0 rfl rfl rfl ?_
  refine z_getI (x := s.1 164 29) rfl f_X8_322 i_164 rfl dX8_feed_1 rfl ?_
  refine z_bipush (v := (20 : Int32)) dX8_feed_4 (by decide) rfl ?_
  refine z_iadd dX8_feed_6 rfl ?_
  refine z_sipush (v := (400 : Int32)) dX8_feed_7 (by decide) rfl ?_
  refine z_icmp_le (pt := 15) dX8_feed_10 (by decide) rfl (fun c => ?_) (fun c => ?_)
  · have h := zit h c
    refine z_aload_n (i := 0) dX8_feed_15 rfl rfl rfl ?_
    refine z_iload_n (i := 1) dX8_feed_16 rfl rfl rfl ?_
    refine z_callV k_X8_feeds m_X8_325 (zRec_of i_164) rfl h rfl (Nat.le_of_ble_eq_true rfl) dX8_feed_17 zy200 rfl ?_
    rintro v s1 ⟨rfl, hRs1, h⟩
    show zt l g (d + 1) M_X8_feed 20 [.ref 164, .int p0, .int p1, .int p2, .int p3, .int p4] [] s1 _
    refine z_aload_n (i := 0) dX8_feed_20 rfl rfl rfl ?_
    refine z_iload_n (i := 2) dX8_feed_21 rfl rfl rfl ?_
    refine z_callV k_X8_feeds m_X8_325 (zRec_of i_164) rfl h rfl (Nat.le_of_ble_eq_true rfl) dX8_feed_22 zy200 rfl ?_
    rintro v s2 ⟨rfl, hRs2, h⟩
    show zt l g (d + 1) M_X8_feed 25 [.ref 164, .int p0, .int p1, .int p2, .int p3, .int p4] [] s2 _
    refine z_aload_n (i := 0) dX8_feed_25 rfl rfl rfl ?_
    refine z_iload_n (i := 3) dX8_feed_26 rfl rfl rfl ?_
    refine z_callV k_X8_feeds m_X8_325 (zRec_of i_164) rfl h rfl (Nat.le_of_ble_eq_true rfl) dX8_feed_27 zy200 rfl ?_
    rintro v s3 ⟨rfl, hRs3, h⟩
    show zt l g (d + 1) M_X8_feed 30 [.ref 164, .int p0, .int p1, .int p2, .int p3, .int p4] [] s3 _
    refine z_aload_n (i := 0) dX8_feed_30 rfl rfl rfl ?_
    refine z_iload dX8_feed_31 rfl rfl ?_
    refine z_callV k_X8_feeds m_X8_325 (zRec_of i_164) rfl h rfl (Nat.le_of_ble_eq_true rfl) dX8_feed_33 zy200 rfl ?_
    rintro v s4 ⟨rfl, hRs4, h⟩
    show zt l g (d + 1) M_X8_feed 36 [.ref 164, .int p0, .int p1, .int p2, .int p3, .int p4] [] s4 _
    refine z_aload_n (i := 0) dX8_feed_36 rfl rfl rfl ?_
    refine z_iload dX8_feed_37 rfl rfl ?_
    refine z_callV k_X8_feeds m_X8_325 (zRec_of i_164) rfl h rfl (Nat.le_of_ble_eq_true rfl) dX8_feed_39 zy200 rfl ?_
    rintro v s5 ⟨rfl, hRs5, h⟩
    show zt l g (d + 1) M_X8_feed 42 [.ref 164, .int p0, .int p1, .int p2, .int p3, .int p4] [] s5 _
    refine z_aload_n (i := 0) dX8_feed_42 rfl rfl rfl ?_
    refine z_getI (x := s5.1 164 29) rfl f_X8_322 i_164 rfl dX8_feed_43 rfl ?_
    exact z_ret (some (.int (s5.1 164 29))) (Or.inr (Or.inl ⟨_, _, rfl, rfl, rfl, dX8_feed_46⟩)) zN200 ⟨_, rfl, h⟩
  · have h := zif h c
    refine z_iconst (v := (-1 : Int32)) dX8_feed_13 (by decide) rfl ?_
    exact z_ret (some (.int (-1 : Int32))) (Or.inr (Or.inl ⟨_, _, rfl, rfl, rfl, dX8_feed_14⟩)) zN200 ⟨_, rfl, h⟩
theorem dX8_end_0 : decode cX8_end 0 = .ok (.iload_n 1, 1) := by decide +kernel
theorem dX8_end_1 : decode cX8_end 1 = .ok (.i2l, 1) := by decide +kernel
theorem dX8_end_2 : decode cX8_end 2 = .ok (.lconst 0, 1) := by decide +kernel
theorem dX8_end_3 : decode cX8_end 3 = .ok (.aload_n 0, 1) := by decide +kernel
theorem dX8_end_4 : decode cX8_end 4 = .ok (.getfield 322, 3) := by decide +kernel
theorem dX8_end_7 : decode cX8_end 7 = .ok (.i2l, 1) := by decide +kernel
theorem dX8_end_8 : decode cX8_end 8 = .ok (.invokestatic 147, 3) := by decide +kernel
theorem dX8_end_11 : decode cX8_end 11 = .ok (.ifCond .ne 5, 3) := by decide +kernel
theorem dX8_end_14 : decode cX8_end 14 = .ok (.iconst 0, 1) := by decide +kernel
theorem dX8_end_15 : decode cX8_end 15 = .ok (.ireturn, 1) := by decide +kernel
theorem dX8_end_16 : decode cX8_end 16 = .ok (.aload_n 0, 1) := by decide +kernel
theorem dX8_end_17 : decode cX8_end 17 = .ok (.iload_n 1, 1) := by decide +kernel
theorem dX8_end_18 : decode cX8_end 18 = .ok (.putfield 322, 3) := by decide +kernel
theorem dX8_end_21 : decode cX8_end 21 = .ok (.iconst 1, 1) := by decide +kernel
theorem dX8_end_22 : decode cX8_end 22 = .ok (.ireturn, 1) := by decide +kernel
set_option maxHeartbeats 4000000 in
set_option maxRecDepth 100000 in
theorem t_X8_end {l : Launch} {g : zG} {d : Nat} {s : zS} (hR : zRok s) {p0 : Int32} {K : Bool → zS → Prop} (h : (if (zinr p0.toInt64 (0 : Int64) ((s.1 164 29).toInt64)) = true then K true (zI s 164 29 p0) else K false s)) : zc l g (d + 1) M_X8_end [.ref 164, .int p0] s (zKz K) := by
  refine zCall_of k_X8_end (Nat.le_of_ble_eq_true rfl) (Nat.le_refl _) (fun _ => ?_)
  show zt l g (d + 1) M_X8_end 0 [.ref 164, .int p0] [] s (zKz K)
  refine z_iload_n (i := 1) dX8_end_0 rfl rfl rfl ?_
  refine z_i2l dX8_end_1 rfl ?_
  refine z_lconst (v := (0 : Int64)) dX8_end_2 (by decide) rfl ?_
  refine z_aload_n (i := 0) dX8_end_3 rfl rfl rfl ?_
  refine z_getI (x := s.1 164 29) rfl f_X8_322 i_164 rfl dX8_end_4 rfl ?_
  refine z_i2l dX8_end_7 rfl ?_
  refine z_in m_X8_147 dX8_end_8 (Nat.le_of_ble_eq_true rfl) rfl ?_
  refine z_ifb_ne (pt := 16) dX8_end_11 (by decide) rfl (fun c => ?_) (fun c => ?_)
  · have h := zit h c
    refine z_aload_n (i := 0) dX8_end_16 rfl rfl rfl ?_
    refine z_iload_n (i := 1) dX8_end_17 rfl rfl rfl ?_
    refine z_putI f_X8_322 i_164 rfl (Or.inl rfl) rfl rfl dX8_end_18 rfl ?_
    refine z_iconst (v := (1 : Int32)) dX8_end_21 (by decide) rfl ?_
    exact z_ret (some (.int (zb true))) (Or.inr (Or.inl ⟨_, _, rfl, rfl, zb_nar _, dX8_end_22⟩)) zN200 ⟨_, rfl, h⟩
  · have h := zif h (by rw [c]; exact Bool.false_ne_true)
    refine z_iconst (v := (0 : Int32)) dX8_end_14 (by decide) rfl ?_
    exact z_ret (some (.int (zb false))) (Or.inr (Or.inl ⟨_, _, rfl, rfl, zb_nar _, dX8_end_15⟩)) zN200 ⟨_, rfl, h⟩
theorem dX8_between_0 : decode cX8_between 0 = .ok (.iload_n 1, 1) := by decide +kernel
theorem dX8_between_1 : decode cX8_between 1 = .ok (.aload_n 0, 1) := by decide +kernel
theorem dX8_between_2 : decode cX8_between 2 = .ok (.getfield 322, 3) := by decide +kernel
theorem dX8_between_5 : decode cX8_between 5 = .ok (.if_icmp .ge 27, 3) := by decide +kernel
theorem dX8_between_8 : decode cX8_between 8 = .ok (.aload_n 0, 1) := by decide +kernel
theorem dX8_between_9 : decode cX8_between 9 = .ok (.getfield 76, 3) := by decide +kernel
theorem dX8_between_12 : decode cX8_between 12 = .ok (.iload_n 1, 1) := by decide +kernel
theorem dX8_between_13 : decode cX8_between 13 = .ok (.baload, 1) := by decide +kernel
theorem dX8_between_14 : decode cX8_between 14 = .ok (.iload_n 2, 1) := by decide +kernel
theorem dX8_between_15 : decode cX8_between 15 = .ok (.if_icmp .lt 17, 3) := by decide +kernel
theorem dX8_between_18 : decode cX8_between 18 = .ok (.aload_n 0, 1) := by decide +kernel
theorem dX8_between_19 : decode cX8_between 19 = .ok (.getfield 76, 3) := by decide +kernel
theorem dX8_between_22 : decode cX8_between 22 = .ok (.iload_n 1, 1) := by decide +kernel
theorem dX8_between_23 : decode cX8_between 23 = .ok (.baload, 1) := by decide +kernel
theorem dX8_between_24 : decode cX8_between 24 = .ok (.iload_n 3, 1) := by decide +kernel
theorem dX8_between_25 : decode cX8_between 25 = .ok (.if_icmp .gt 7, 3) := by decide +kernel
theorem dX8_between_28 : decode cX8_between 28 = .ok (.iconst 1, 1) := by decide +kernel
theorem dX8_between_29 : decode cX8_between 29 = .ok (.goto 4, 3) := by decide +kernel
theorem dX8_between_32 : decode cX8_between 32 = .ok (.iconst 0, 1) := by decide +kernel
theorem dX8_between_33 : decode cX8_between 33 = .ok (.ireturn, 1) := by decide +kernel
set_option maxHeartbeats 4000000 in
set_option maxRecDepth 100000 in
theorem t_X8_between {l : Launch} {g : zG} {d : Nat} {s : zS} (hR : zRok s) {p0 : Int32} {p1 : Int32} {p2 : Int32} {K : Bool → zS → Prop} (h : (if (s.1 164 29) ≤ p0 then K false s else (vp_in p0 400 ∧ (if (s.1 244 p0.toNatClampNeg) < p1 then K false s else (vp_in p0 400 ∧ (if p2 < (s.1 244 p0.toNatClampNeg) then K false s else K true s)))))) : zc l g d M_X8_between [.ref 164, .int p0, .int p1, .int p2] s (zKz K) := by
  refine zCall_of k_X8_between (Nat.le_of_ble_eq_true rfl) (Nat.le_refl _) (fun _ => ?_)
  show zt l g d M_X8_between 0 [.ref 164, .int p0, .int p1, .int p2] [] s (zKz K)
  refine z_iload_n (i := 1) dX8_between_0 rfl rfl rfl ?_
  refine z_aload_n (i := 0) dX8_between_1 rfl rfl rfl ?_
  refine z_getI (x := s.1 164 29) rfl f_X8_322 i_164 rfl dX8_between_2 rfl ?_
  refine z_icmp_ge (pt := 32) dX8_between_5 (by decide) rfl (fun c => ?_) (fun c => ?_)
  · have h := zit h c
    refine z_iconst (v := (0 : Int32)) dX8_between_32 (by decide) rfl ?_
    exact z_ret (some (.int (zb false))) (Or.inr (Or.inl ⟨_, _, rfl, rfl, zb_nar _, dX8_between_33⟩)) zN200 ⟨_, rfl, h⟩
  · have h := zif h c
    refine z_aload_n (i := 0) dX8_between_8 rfl rfl rfl ?_
    refine z_getR (q := 244) f_X8_76 i_164 rfl (r_164_28 hR) (by decide) dX8_between_9 rfl ?_
    refine z_iload_n (i := 1) dX8_between_12 rfl rfl rfl ?_
    obtain ⟨a1, h⟩ := h
    have wa1 := vin a1
    refine z_bald (x := s.1 244 p0.toNatClampNeg) rfl a_244 a1 dX8_between_13 rfl ?_
    refine z_iload_n (i := 2) dX8_between_14 rfl rfl rfl ?_
    refine z_icmp_lt (pt := 32) dX8_between_15 (by decide) rfl (fun c => ?_) (fun c => ?_)
    · have h := zit h c
      refine z_iconst (v := (0 : Int32)) dX8_between_32 (by decide) rfl ?_
      exact z_ret (some (.int (zb false))) (Or.inr (Or.inl ⟨_, _, rfl, rfl, zb_nar _, dX8_between_33⟩)) zN200 ⟨_, rfl, h⟩
    · have h := zif h c
      refine z_aload_n (i := 0) dX8_between_18 rfl rfl rfl ?_
      refine z_getR (q := 244) f_X8_76 i_164 rfl (r_164_28 hR) (by decide) dX8_between_19 rfl ?_
      refine z_iload_n (i := 1) dX8_between_22 rfl rfl rfl ?_
      obtain ⟨a2, h⟩ := h
      have wa2 := vin a2
      refine z_bald (x := s.1 244 p0.toNatClampNeg) rfl a_244 a2 dX8_between_23 rfl ?_
      refine z_iload_n (i := 3) dX8_between_24 rfl rfl rfl ?_
      refine z_icmp_gt (pt := 32) dX8_between_25 (by decide) rfl (fun c => ?_) (fun c => ?_)
      · have h := zit h c
        refine z_iconst (v := (0 : Int32)) dX8_between_32 (by decide) rfl ?_
        exact z_ret (some (.int (zb false))) (Or.inr (Or.inl ⟨_, _, rfl, rfl, zb_nar _, dX8_between_33⟩)) zN200 ⟨_, rfl, h⟩
      · have h := zif h c
        refine z_iconst (v := (1 : Int32)) dX8_between_28 (by decide) rfl ?_
        refine z_goto (pn := 33) dX8_between_29 (by decide) ?_
        exact z_ret (some (.int (zb true))) (Or.inr (Or.inl ⟨_, _, rfl, rfl, zb_nar _, dX8_between_33⟩)) zN200 ⟨_, rfl, h⟩
theorem dX8_next_0 : decode cX8_next 0 = .ok (.aload_n 0, 1) := by decide +kernel
theorem dX8_next_1 : decode cX8_next 1 = .ok (.aload_n 0, 1) := by decide +kernel
theorem dX8_next_2 : decode cX8_next 2 = .ok (.getfield 329, 3) := by decide +kernel
theorem dX8_next_5 : decode cX8_next 5 = .ok (.putfield 332, 3) := by decide +kernel
theorem dX8_next_8 : decode cX8_next 8 = .ok (.aload_n 0, 1) := by decide +kernel
theorem dX8_next_9 : decode cX8_next 9 = .ok (.getfield 332, 3) := by decide +kernel
theorem dX8_next_12 : decode cX8_next 12 = .ok (.aload_n 0, 1) := by decide +kernel
theorem dX8_next_13 : decode cX8_next 13 = .ok (.getfield 322, 3) := by decide +kernel
theorem dX8_next_16 : decode cX8_next 16 = .ok (.if_icmp .ge 44, 3) := by decide +kernel
theorem dX8_next_19 : decode cX8_next 19 = .ok (.aload_n 0, 1) := by decide +kernel
theorem dX8_next_20 : decode cX8_next 20 = .ok (.getfield 76, 3) := by decide +kernel
theorem dX8_next_23 : decode cX8_next 23 = .ok (.aload_n 0, 1) := by decide +kernel
theorem dX8_next_24 : decode cX8_next 24 = .ok (.getfield 332, 3) := by decide +kernel
theorem dX8_next_27 : decode cX8_next 27 = .ok (.baload, 1) := by decide +kernel
theorem dX8_next_28 : decode cX8_next 28 = .ok (.bipush 32, 2) := by decide +kernel
theorem dX8_next_30 : decode cX8_next 30 = .ok (.if_icmp .eq 17, 3) := by decide +kernel
theorem dX8_next_33 : decode cX8_next 33 = .ok (.aload_n 0, 1) := by decide +kernel
theorem dX8_next_34 : decode cX8_next 34 = .ok (.getfield 76, 3) := by decide +kernel
theorem dX8_next_37 : decode cX8_next 37 = .ok (.aload_n 0, 1) := by decide +kernel
theorem dX8_next_38 : decode cX8_next 38 = .ok (.getfield 332, 3) := by decide +kernel
theorem dX8_next_41 : decode cX8_next 41 = .ok (.baload, 1) := by decide +kernel
theorem dX8_next_42 : decode cX8_next 42 = .ok (.bipush 10, 2) := by decide +kernel
theorem dX8_next_44 : decode cX8_next 44 = .ok (.if_icmp .ne 16, 3) := by decide +kernel
theorem dX8_next_47 : decode cX8_next 47 = .ok (.aload_n 0, 1) := by decide +kernel
theorem dX8_next_48 : decode cX8_next 48 = .ok (.dup, 1) := by decide +kernel
theorem dX8_next_49 : decode cX8_next 49 = .ok (.getfield 332, 3) := by decide +kernel
theorem dX8_next_52 : decode cX8_next 52 = .ok (.iconst 1, 1) := by decide +kernel
theorem dX8_next_53 : decode cX8_next 53 = .ok (.iadd, 1) := by decide +kernel
theorem dX8_next_54 : decode cX8_next 54 = .ok (.putfield 332, 3) := by decide +kernel
theorem dX8_next_57 : decode cX8_next 57 = .ok (.goto (-49), 3) := by decide +kernel
theorem dX8_next_60 : decode cX8_next 60 = .ok (.aload_n 0, 1) := by decide +kernel
theorem dX8_next_61 : decode cX8_next 61 = .ok (.aload_n 0, 1) := by decide +kernel
theorem dX8_next_62 : decode cX8_next 62 = .ok (.getfield 332, 3) := by decide +kernel
theorem dX8_next_65 : decode cX8_next 65 = .ok (.putfield 329, 3) := by decide +kernel
theorem dX8_next_68 : decode cX8_next 68 = .ok (.aload_n 0, 1) := by decide +kernel
theorem dX8_next_69 : decode cX8_next 69 = .ok (.aload_n 0, 1) := by decide +kernel
theorem dX8_next_70 : decode cX8_next 70 = .ok (.getfield 332, 3) := by decide +kernel
theorem dX8_next_73 : decode cX8_next 73 = .ok (.bipush 97, 2) := by decide +kernel
theorem dX8_next_75 : decode cX8_next 75 = .ok (.bipush 122, 2) := by decide +kernel
theorem dX8_next_77 : decode cX8_next 77 = .ok (.invokevirtual 335, 3) := by decide +kernel
theorem dX8_next_80 : decode cX8_next 80 = .ok (.ifCond .eq 31, 3) := by decide +kernel
theorem dX8_next_83 : decode cX8_next 83 = .ok (.aload_n 0, 1) := by decide +kernel
theorem dX8_next_84 : decode cX8_next 84 = .ok (.aload_n 0, 1) := by decide +kernel
theorem dX8_next_85 : decode cX8_next 85 = .ok (.getfield 329, 3) := by decide +kernel
theorem dX8_next_88 : decode cX8_next 88 = .ok (.bipush 97, 2) := by decide +kernel
theorem dX8_next_90 : decode cX8_next 90 = .ok (.bipush 122, 2) := by decide +kernel
theorem dX8_next_92 : decode cX8_next 92 = .ok (.invokevirtual 335, 3) := by decide +kernel
theorem dX8_next_95 : decode cX8_next 95 = .ok (.ifCond .eq 80, 3) := by decide +kernel
theorem dX8_next_98 : decode cX8_next 98 = .ok (.aload_n 0, 1) := by decide +kernel
theorem dX8_next_99 : decode cX8_next 99 = .ok (.dup, 1) := by decide +kernel
theorem dX8_next_100 : decode cX8_next 100 = .ok (.getfield 329, 3) := by decide +kernel
theorem dX8_next_103 : decode cX8_next 103 = .ok (.iconst 1, 1) := by decide +kernel
theorem dX8_next_104 : decode cX8_next 104 = .ok (.iadd, 1) := by decide +kernel
theorem dX8_next_105 : decode cX8_next 105 = .ok (.putfield 329, 3) := by decide +kernel
theorem dX8_next_108 : decode cX8_next 108 = .ok (.goto (-25), 3) := by decide +kernel
theorem dX8_next_111 : decode cX8_next 111 = .ok (.aload_n 0, 1) := by decide +kernel
theorem dX8_next_112 : decode cX8_next 112 = .ok (.aload_n 0, 1) := by decide +kernel
theorem dX8_next_113 : decode cX8_next 113 = .ok (.getfield 332, 3) := by decide +kernel
theorem dX8_next_116 : decode cX8_next 116 = .ok (.bipush 48, 2) := by decide +kernel
theorem dX8_next_118 : decode cX8_next 118 = .ok (.bipush 57, 2) := by decide +kernel
theorem dX8_next_120 : decode cX8_next 120 = .ok (.invokevirtual 335, 3) := by decide +kernel
theorem dX8_next_123 : decode cX8_next 123 = .ok (.ifCond .eq 31, 3) := by decide +kernel
theorem dX8_next_126 : decode cX8_next 126 = .ok (.aload_n 0, 1) := by decide +kernel
theorem dX8_next_127 : decode cX8_next 127 = .ok (.aload_n 0, 1) := by decide +kernel
theorem dX8_next_128 : decode cX8_next 128 = .ok (.getfield 329, 3) := by decide +kernel
theorem dX8_next_131 : decode cX8_next 131 = .ok (.bipush 48, 2) := by decide +kernel
theorem dX8_next_133 : decode cX8_next 133 = .ok (.bipush 57, 2) := by decide +kernel
theorem dX8_next_135 : decode cX8_next 135 = .ok (.invokevirtual 335, 3) := by decide +kernel
theorem dX8_next_138 : decode cX8_next 138 = .ok (.ifCond .eq 37, 3) := by decide +kernel
theorem dX8_next_141 : decode cX8_next 141 = .ok (.aload_n 0, 1) := by decide +kernel
theorem dX8_next_142 : decode cX8_next 142 = .ok (.dup, 1) := by decide +kernel
theorem dX8_next_143 : decode cX8_next 143 = .ok (.getfield 329, 3) := by decide +kernel
theorem dX8_next_146 : decode cX8_next 146 = .ok (.iconst 1, 1) := by decide +kernel
theorem dX8_next_147 : decode cX8_next 147 = .ok (.iadd, 1) := by decide +kernel
theorem dX8_next_148 : decode cX8_next 148 = .ok (.putfield 329, 3) := by decide +kernel
theorem dX8_next_151 : decode cX8_next 151 = .ok (.goto (-25), 3) := by decide +kernel
theorem dX8_next_154 : decode cX8_next 154 = .ok (.aload_n 0, 1) := by decide +kernel
theorem dX8_next_155 : decode cX8_next 155 = .ok (.getfield 332, 3) := by decide +kernel
theorem dX8_next_158 : decode cX8_next 158 = .ok (.aload_n 0, 1) := by decide +kernel
theorem dX8_next_159 : decode cX8_next 159 = .ok (.getfield 322, 3) := by decide +kernel
theorem dX8_next_162 : decode cX8_next 162 = .ok (.if_icmp .ge 13, 3) := by decide +kernel
theorem dX8_next_165 : decode cX8_next 165 = .ok (.aload_n 0, 1) := by decide +kernel
theorem dX8_next_166 : decode cX8_next 166 = .ok (.dup, 1) := by decide +kernel
theorem dX8_next_167 : decode cX8_next 167 = .ok (.getfield 329, 3) := by decide +kernel
theorem dX8_next_170 : decode cX8_next 170 = .ok (.iconst 1, 1) := by decide +kernel
theorem dX8_next_171 : decode cX8_next 171 = .ok (.iadd, 1) := by decide +kernel
theorem dX8_next_172 : decode cX8_next 172 = .ok (.putfield 329, 3) := by decide +kernel
theorem dX8_next_175 : decode cX8_next 175 = .ok (.return_, 1) := by decide +kernel
set_option maxHeartbeats 4000000 in
set_option maxRecDepth 100000 in
theorem t_X8_next {l : Launch} {g : zG} {d : Nat} {s : zS} (hR : zRok s)  {K : zS → Prop} (h : zt l g (d + 1) M_X8_next 8 [.ref 164] [] (zI s 164 30 (s.1 164 31)) (zKv K)) : zc l g (d + 1) M_X8_next [.ref 164] s (zKv K) := by
  refine zCall_of k_X8_next (Nat.le_of_ble_eq_true rfl) (Nat.le_refl _) (fun _ => ?_)
  show zt l g (d + 1) M_X8_next 0 [.ref 164] [] s (zKv K)
  refine z_aload_n (i := 0) dX8_next_0 rfl rfl rfl ?_
  refine z_aload_n (i := 0) dX8_next_1 rfl rfl rfl ?_
  refine z_getI (x := s.1 164 31) rfl f_X8_329 i_164 rfl dX8_next_2 rfl ?_
  refine z_putI f_X8_332 i_164 rfl (Or.inl rfl) rfl rfl dX8_next_5 rfl ?_
  exact h
set_option maxHeartbeats 4000000 in
set_option maxRecDepth 100000 in
theorem t_X8_next_8 {l : Launch} {g : zG} {d : Nat} {s : zS} (hR : zRok s)  {K : zS → Prop} (h : (if (s.1 164 29) ≤ (s.1 164 30) then (zc l g d M_X8_between [.ref 164, .int (s.1 164 30), .int (97 : Int32), .int (122 : Int32)] (zI s 164 31 (s.1 164 30)) (zKz (fun b2 s1 => s1.2.2.1 = s.2.2.1 ∧ (if b2 = true then zt l g (d + 1) M_X8_next 83 [.ref 164] [] s1 (zKv K) else (zc l g d M_X8_between [.ref 164, .int (s1.1 164 30), .int (48 : Int32), .int (57 : Int32)] s1 (zKz (fun b4 s3 => s3.2.2.1 = s1.2.2.1 ∧ (if b4 = true then zt l g (d + 1) M_X8_next 126 [.ref 164] [] s3 (zKv K) else (if (s3.1 164 29) ≤ (s3.1 164 30) then K s3 else K (zI s3 164 31 ((s3.1 164 31) + (1 : Int32)))))))))))) else (vp_in (s.1 164 30) 400 ∧ (if (s.1 244 ((s.1 164 30).toNatClampNeg)) = (32 : Int32) then zt l g (d + 1) M_X8_next 8 [.ref 164] [] (zI s 164 30 ((s.1 164 30) + (1 : Int32))) (zKv K) else (vp_in (s.1 164 30) 400 ∧ (if (s.1 244 ((s.1 164 30).toNatClampNeg)) = (10 : Int32) then zt l g (d + 1) M_X8_next 8 [.ref 164] [] (zI s 164 30 ((s.1 164 30) + (1 : Int32))) (zKv K) else (zc l g d M_X8_between [.ref 164, .int (s.1 164 30), .int (97 : Int32), .int (122 : Int32)] (zI s 164 31 (s.1 164 30)) (zKz (fun b8 s7 => s7.2.2.1 = s.2.2.1 ∧ (if b8 = true then zt l g (d + 1) M_X8_next 83 [.ref 164] [] s7 (zKv K) else (zc l g d M_X8_between [.ref 164, .int (s7.1 164 30), .int (48 : Int32), .int (57 : Int32)] s7 (zKz (fun b10 s9 => s9.2.2.1 = s7.2.2.1 ∧ (if b10 = true then zt l g (d + 1) M_X8_next 126 [.ref 164] [] s9 (zKv K) else (if (s9.1 164 29) ≤ (s9.1 164 30) then K s9 else K (zI s9 164 31 ((s9.1 164 31) + (1 : Int32)))))))))))))))))) : zt l g (d + 1) M_X8_next 8 [.ref 164] [] s (zKv K) := by
  refine z_aload_n (i := 0) dX8_next_8 rfl rfl rfl ?_
  refine z_getI (x := s.1 164 30) rfl f_X8_332 i_164 rfl dX8_next_9 rfl ?_
  refine z_aload_n (i := 0) dX8_next_12 rfl rfl rfl ?_
  refine z_getI (x := s.1 164 29) rfl f_X8_322 i_164 rfl dX8_next_13 rfl ?_
  refine z_icmp_ge (pt := 60) dX8_next_16 (by decide) rfl (fun c => ?_) (fun c => ?_)
  · have h := zit h c
    refine z_aload_n (i := 0) dX8_next_60 rfl rfl rfl ?_
    refine z_aload_n (i := 0) dX8_next_61 rfl rfl rfl ?_
    refine z_getI (x := s.1 164 30) rfl f_X8_332 i_164 rfl dX8_next_62 rfl ?_
    refine z_putI f_X8_329 i_164 rfl (Or.inl rfl) rfl rfl dX8_next_65 rfl ?_
    refine z_aload_n (i := 0) dX8_next_68 rfl rfl rfl ?_
    refine z_aload_n (i := 0) dX8_next_69 rfl rfl rfl ?_
    refine z_getI (x := s.1 164 30) (zI_k (by decide)) f_X8_332 i_164 rfl dX8_next_70 rfl ?_
    refine z_bipush (v := (97 : Int32)) dX8_next_73 (by decide) rfl ?_
    refine z_bipush (v := (122 : Int32)) dX8_next_75 (by decide) rfl ?_
    refine z_callV k_X8_between m_X8_335 (zRec_of i_164) rfl h rfl (Nat.le_of_ble_eq_true rfl) dX8_next_77 zy200 rfl ?_
    rintro v s1 ⟨b2, rfl, hRs1, h⟩
    show zt l g (d + 1) M_X8_next 80 [.ref 164] [.int (zb b2)] s1 _
    refine z_ifb_eq (pt := 111) dX8_next_80 (by decide) rfl (fun c => ?_) (fun c => ?_)
    · have h := zif h (by rw [c]; exact Bool.false_ne_true)
      refine z_aload_n (i := 0) dX8_next_111 rfl rfl rfl ?_
      refine z_aload_n (i := 0) dX8_next_112 rfl rfl rfl ?_
      refine z_getI (x := s1.1 164 30) rfl f_X8_332 i_164 rfl dX8_next_113 rfl ?_
      refine z_bipush (v := (48 : Int32)) dX8_next_116 (by decide) rfl ?_
      refine z_bipush (v := (57 : Int32)) dX8_next_118 (by decide) rfl ?_
      refine z_callV k_X8_between m_X8_335 (zRec_of i_164) rfl h rfl (Nat.le_of_ble_eq_true rfl) dX8_next_120 zy200 rfl ?_
      rintro v s3 ⟨b4, rfl, hRs3, h⟩
      show zt l g (d + 1) M_X8_next 123 [.ref 164] [.int (zb b4)] s3 _
      refine z_ifb_eq (pt := 154) dX8_next_123 (by decide) rfl (fun c => ?_) (fun c => ?_)
      · have h := zif h (by rw [c]; exact Bool.false_ne_true)
        refine z_aload_n (i := 0) dX8_next_154 rfl rfl rfl ?_
        refine z_getI (x := s3.1 164 30) rfl f_X8_332 i_164 rfl dX8_next_155 rfl ?_
        refine z_aload_n (i := 0) dX8_next_158 rfl rfl rfl ?_
        refine z_getI (x := s3.1 164 29) rfl f_X8_322 i_164 rfl dX8_next_159 rfl ?_
        refine z_icmp_ge (pt := 175) dX8_next_162 (by decide) rfl (fun c => ?_) (fun c => ?_)
        · have h := zit h c
          exact z_ret none (Or.inl ⟨rfl, rfl, dX8_next_175⟩) zN200 ⟨rfl, h⟩
        · have h := zif h c
          refine z_aload_n (i := 0) dX8_next_165 rfl rfl rfl ?_
          refine z_dup dX8_next_166 rfl rfl ?_
          refine z_getI (x := s3.1 164 31) rfl f_X8_329 i_164 rfl dX8_next_167 rfl ?_
          refine z_iconst (v := (1 : Int32)) dX8_next_170 (by decide) rfl ?_
          refine z_iadd dX8_next_171 rfl ?_
          refine z_putI f_X8_329 i_164 rfl (Or.inl rfl) rfl rfl dX8_next_172 rfl ?_
          exact z_ret none (Or.inl ⟨rfl, rfl, dX8_next_175⟩) zN200 ⟨rfl, h⟩
      · have h := zit h c
        exact h
    · have h := zit h c
      exact h
  · have h := zif h c
    refine z_aload_n (i := 0) dX8_next_19 rfl rfl rfl ?_
    refine z_getR (q := 244) f_X8_76 i_164 rfl (r_164_28 hR) (by decide) dX8_next_20 rfl ?_
    refine z_aload_n (i := 0) dX8_next_23 rfl rfl rfl ?_
    refine z_getI (x := s.1 164 30) rfl f_X8_332 i_164 rfl dX8_next_24 rfl ?_
    obtain ⟨a5, h⟩ := h
    have wa5 := vin a5
    refine z_bald (x := s.1 244 ((s.1 164 30).toNatClampNeg)) rfl a_244 a5 dX8_next_27 rfl ?_
    refine z_bipush (v := (32 : Int32)) dX8_next_28 (by decide) rfl ?_
    refine z_icmp_eq (pt := 47) dX8_next_30 (by decide) rfl (fun c => ?_) (fun c => ?_)
    · have h := zit h c
      refine z_aload_n (i := 0) dX8_next_47 rfl rfl rfl ?_
      refine z_dup dX8_next_48 rfl rfl ?_
      refine z_getI (x := s.1 164 30) rfl f_X8_332 i_164 rfl dX8_next_49 rfl ?_
      refine z_iconst (v := (1 : Int32)) dX8_next_52 (by decide) rfl ?_
      refine z_iadd dX8_next_53 rfl ?_
      refine z_putI f_X8_332 i_164 rfl (Or.inl rfl) rfl rfl dX8_next_54 rfl ?_
      refine z_goto (pn := 8) dX8_next_57 (by decide) ?_
      exact h
    · have h := zif h c
      refine z_aload_n (i := 0) dX8_next_33 rfl rfl rfl ?_
      refine z_getR (q := 244) f_X8_76 i_164 rfl (r_164_28 hR) (by decide) dX8_next_34 rfl ?_
      refine z_aload_n (i := 0) dX8_next_37 rfl rfl rfl ?_
      refine z_getI (x := s.1 164 30) rfl f_X8_332 i_164 rfl dX8_next_38 rfl ?_
      obtain ⟨a6, h⟩ := h
      have wa6 := vin a6
      refine z_bald (x := s.1 244 ((s.1 164 30).toNatClampNeg)) rfl a_244 a6 dX8_next_41 rfl ?_
      refine z_bipush (v := (10 : Int32)) dX8_next_42 (by decide) rfl ?_
      refine z_icmp_ne (pt := 60) dX8_next_44 (by decide) rfl (fun c => ?_) (fun c => ?_)
      · have h := zif h c
        refine z_aload_n (i := 0) dX8_next_60 rfl rfl rfl ?_
        refine z_aload_n (i := 0) dX8_next_61 rfl rfl rfl ?_
        refine z_getI (x := s.1 164 30) rfl f_X8_332 i_164 rfl dX8_next_62 rfl ?_
        refine z_putI f_X8_329 i_164 rfl (Or.inl rfl) rfl rfl dX8_next_65 rfl ?_
        refine z_aload_n (i := 0) dX8_next_68 rfl rfl rfl ?_
        refine z_aload_n (i := 0) dX8_next_69 rfl rfl rfl ?_
        refine z_getI (x := s.1 164 30) (zI_k (by decide)) f_X8_332 i_164 rfl dX8_next_70 rfl ?_
        refine z_bipush (v := (97 : Int32)) dX8_next_73 (by decide) rfl ?_
        refine z_bipush (v := (122 : Int32)) dX8_next_75 (by decide) rfl ?_
        refine z_callV k_X8_between m_X8_335 (zRec_of i_164) rfl h rfl (Nat.le_of_ble_eq_true rfl) dX8_next_77 zy200 rfl ?_
        rintro v s7 ⟨b8, rfl, hRs7, h⟩
        show zt l g (d + 1) M_X8_next 80 [.ref 164] [.int (zb b8)] s7 _
        refine z_ifb_eq (pt := 111) dX8_next_80 (by decide) rfl (fun c => ?_) (fun c => ?_)
        · have h := zif h (by rw [c]; exact Bool.false_ne_true)
          refine z_aload_n (i := 0) dX8_next_111 rfl rfl rfl ?_
          refine z_aload_n (i := 0) dX8_next_112 rfl rfl rfl ?_
          refine z_getI (x := s7.1 164 30) rfl f_X8_332 i_164 rfl dX8_next_113 rfl ?_
          refine z_bipush (v := (48 : Int32)) dX8_next_116 (by decide) rfl ?_
          refine z_bipush (v := (57 : Int32)) dX8_next_118 (by decide) rfl ?_
          refine z_callV k_X8_between m_X8_335 (zRec_of i_164) rfl h rfl (Nat.le_of_ble_eq_true rfl) dX8_next_120 zy200 rfl ?_
          rintro v s9 ⟨b10, rfl, hRs9, h⟩
          show zt l g (d + 1) M_X8_next 123 [.ref 164] [.int (zb b10)] s9 _
          refine z_ifb_eq (pt := 154) dX8_next_123 (by decide) rfl (fun c => ?_) (fun c => ?_)
          · have h := zif h (by rw [c]; exact Bool.false_ne_true)
            refine z_aload_n (i := 0) dX8_next_154 rfl rfl rfl ?_
            refine z_getI (x := s9.1 164 30) rfl f_X8_332 i_164 rfl dX8_next_155 rfl ?_
            refine z_aload_n (i := 0) dX8_next_158 rfl rfl rfl ?_
            refine z_getI (x := s9.1 164 29) rfl f_X8_322 i_164 rfl dX8_next_159 rfl ?_
            refine z_icmp_ge (pt := 175) dX8_next_162 (by decide) rfl (fun c => ?_) (fun c => ?_)
            · have h := zit h c
              exact z_ret none (Or.inl ⟨rfl, rfl, dX8_next_175⟩) zN200 ⟨rfl, h⟩
            · have h := zif h c
              refine z_aload_n (i := 0) dX8_next_165 rfl rfl rfl ?_
              refine z_dup dX8_next_166 rfl rfl ?_
              refine z_getI (x := s9.1 164 31) rfl f_X8_329 i_164 rfl dX8_next_167 rfl ?_
              refine z_iconst (v := (1 : Int32)) dX8_next_170 (by decide) rfl ?_
              refine z_iadd dX8_next_171 rfl ?_
              refine z_putI f_X8_329 i_164 rfl (Or.inl rfl) rfl rfl dX8_next_172 rfl ?_
              exact z_ret none (Or.inl ⟨rfl, rfl, dX8_next_175⟩) zN200 ⟨rfl, h⟩
          · have h := zit h c
            exact h
        · have h := zit h c
          exact h
      · have h := zit h c
        refine z_aload_n (i := 0) dX8_next_47 rfl rfl rfl ?_
        refine z_dup dX8_next_48 rfl rfl ?_
        refine z_getI (x := s.1 164 30) rfl f_X8_332 i_164 rfl dX8_next_49 rfl ?_
        refine z_iconst (v := (1 : Int32)) dX8_next_52 (by decide) rfl ?_
        refine z_iadd dX8_next_53 rfl ?_
        refine z_putI f_X8_332 i_164 rfl (Or.inl rfl) rfl rfl dX8_next_54 rfl ?_
        refine z_goto (pn := 8) dX8_next_57 (by decide) ?_
        exact h
set_option maxHeartbeats 4000000 in
set_option maxRecDepth 100000 in
theorem t_X8_next_126 {l : Launch} {g : zG} {d : Nat} {s : zS} (hR : zRok s)  {K : zS → Prop} (h : (zc l g d M_X8_between [.ref 164, .int (s.1 164 31), .int (48 : Int32), .int (57 : Int32)] s (zKz (fun b2 s1 => s1.2.2.1 = s.2.2.1 ∧ (if b2 = true then zt l g (d + 1) M_X8_next 126 [.ref 164] [] (zI s1 164 31 ((s1.1 164 31) + (1 : Int32))) (zKv K) else K s1))))) : zt l g (d + 1) M_X8_next 126 [.ref 164] [] s (zKv K) := by
  refine z_aload_n (i := 0) dX8_next_126 rfl rfl rfl ?_
  refine z_aload_n (i := 0) dX8_next_127 rfl rfl rfl ?_
  refine z_getI (x := s.1 164 31) rfl f_X8_329 i_164 rfl dX8_next_128 rfl ?_
  refine z_bipush (v := (48 : Int32)) dX8_next_131 (by decide) rfl ?_
  refine z_bipush (v := (57 : Int32)) dX8_next_133 (by decide) rfl ?_
  refine z_callV k_X8_between m_X8_335 (zRec_of i_164) rfl h rfl (Nat.le_of_ble_eq_true rfl) dX8_next_135 zy200 rfl ?_
  rintro v s1 ⟨b2, rfl, hRs1, h⟩
  show zt l g (d + 1) M_X8_next 138 [.ref 164] [.int (zb b2)] s1 _
  refine z_ifb_eq (pt := 175) dX8_next_138 (by decide) rfl (fun c => ?_) (fun c => ?_)
  · have h := zif h (by rw [c]; exact Bool.false_ne_true)
    exact z_ret none (Or.inl ⟨rfl, rfl, dX8_next_175⟩) zN200 ⟨rfl, h⟩
  · have h := zit h c
    refine z_aload_n (i := 0) dX8_next_141 rfl rfl rfl ?_
    refine z_dup dX8_next_142 rfl rfl ?_
    refine z_getI (x := s1.1 164 31) rfl f_X8_329 i_164 rfl dX8_next_143 rfl ?_
    refine z_iconst (v := (1 : Int32)) dX8_next_146 (by decide) rfl ?_
    refine z_iadd dX8_next_147 rfl ?_
    refine z_putI f_X8_329 i_164 rfl (Or.inl rfl) rfl rfl dX8_next_148 rfl ?_
    refine z_goto (pn := 126) dX8_next_151 (by decide) ?_
    exact h
set_option maxHeartbeats 4000000 in
set_option maxRecDepth 100000 in
theorem t_X8_next_83 {l : Launch} {g : zG} {d : Nat} {s : zS} (hR : zRok s)  {K : zS → Prop} (h : (zc l g d M_X8_between [.ref 164, .int (s.1 164 31), .int (97 : Int32), .int (122 : Int32)] s (zKz (fun b2 s1 => s1.2.2.1 = s.2.2.1 ∧ (if b2 = true then zt l g (d + 1) M_X8_next 83 [.ref 164] [] (zI s1 164 31 ((s1.1 164 31) + (1 : Int32))) (zKv K) else K s1))))) : zt l g (d + 1) M_X8_next 83 [.ref 164] [] s (zKv K) := by
  refine z_aload_n (i := 0) dX8_next_83 rfl rfl rfl ?_
  refine z_aload_n (i := 0) dX8_next_84 rfl rfl rfl ?_
  refine z_getI (x := s.1 164 31) rfl f_X8_329 i_164 rfl dX8_next_85 rfl ?_
  refine z_bipush (v := (97 : Int32)) dX8_next_88 (by decide) rfl ?_
  refine z_bipush (v := (122 : Int32)) dX8_next_90 (by decide) rfl ?_
  refine z_callV k_X8_between m_X8_335 (zRec_of i_164) rfl h rfl (Nat.le_of_ble_eq_true rfl) dX8_next_92 zy200 rfl ?_
  rintro v s1 ⟨b2, rfl, hRs1, h⟩
  show zt l g (d + 1) M_X8_next 95 [.ref 164] [.int (zb b2)] s1 _
  refine z_ifb_eq (pt := 175) dX8_next_95 (by decide) rfl (fun c => ?_) (fun c => ?_)
  · have h := zif h (by rw [c]; exact Bool.false_ne_true)
    exact z_ret none (Or.inl ⟨rfl, rfl, dX8_next_175⟩) zN200 ⟨rfl, h⟩
  · have h := zit h c
    refine z_aload_n (i := 0) dX8_next_98 rfl rfl rfl ?_
    refine z_dup dX8_next_99 rfl rfl ?_
    refine z_getI (x := s1.1 164 31) rfl f_X8_329 i_164 rfl dX8_next_100 rfl ?_
    refine z_iconst (v := (1 : Int32)) dX8_next_103 (by decide) rfl ?_
    refine z_iadd dX8_next_104 rfl ?_
    refine z_putI f_X8_329 i_164 rfl (Or.inl rfl) rfl rfl dX8_next_105 rfl ?_
    refine z_goto (pn := 83) dX8_next_108 (by decide) ?_
    exact h
theorem dX8_passes_0 : decode cX8_passes 0 = .ok (.iload_n 1, 1) := by decide +kernel
theorem dX8_passes_1 : decode cX8_passes 1 = .ok (.ifCond .ne 21, 3) := by decide +kernel
theorem dX8_passes_4 : decode cX8_passes 4 = .ok (.aload_n 0, 1) := by decide +kernel
theorem dX8_passes_5 : decode cX8_passes 5 = .ok (.getfield 338, 3) := by decide +kernel
theorem dX8_passes_8 : decode cX8_passes 8 = .ok (.iconst (-1), 1) := by decide +kernel
theorem dX8_passes_9 : decode cX8_passes 9 = .ok (.if_icmp .ne 11, 3) := by decide +kernel
theorem dX8_passes_12 : decode cX8_passes 12 = .ok (.aload_n 0, 1) := by decide +kernel
theorem dX8_passes_13 : decode cX8_passes 13 = .ok (.aload_n 0, 1) := by decide +kernel
theorem dX8_passes_14 : decode cX8_passes 14 = .ok (.getfield 332, 3) := by decide +kernel
theorem dX8_passes_17 : decode cX8_passes 17 = .ok (.putfield 338, 3) := by decide +kernel
theorem dX8_passes_20 : decode cX8_passes 20 = .ok (.iconst 0, 1) := by decide +kernel
theorem dX8_passes_21 : decode cX8_passes 21 = .ok (.ireturn, 1) := by decide +kernel
theorem dX8_passes_22 : decode cX8_passes 22 = .ok (.aload_n 0, 1) := by decide +kernel
theorem dX8_passes_23 : decode cX8_passes 23 = .ok (.invokevirtual 341, 3) := by decide +kernel
theorem dX8_passes_26 : decode cX8_passes 26 = .ok (.iconst 1, 1) := by decide +kernel
theorem dX8_passes_27 : decode cX8_passes 27 = .ok (.ireturn, 1) := by decide +kernel
set_option maxHeartbeats 4000000 in
set_option maxRecDepth 100000 in
theorem t_X8_passes {l : Launch} {g : zG} {d : Nat} {s : zS} (hR : zRok s) {p0 : Bool} {K : Bool → zS → Prop} (h : (if p0 = true then (zc l g d M_X8_next [.ref 164] s (zKv (fun s1 => s1.2.2.1 = s.2.2.1 ∧ K true s1))) else (if (s.1 164 32) = (-1 : Int32) then K false (zI s 164 32 (s.1 164 30)) else K false s))) : zc l g (d + 1) M_X8_passes [.ref 164, .int (zb p0)] s (zKz K) := by
  refine zCall_of k_X8_passes (Nat.le_of_ble_eq_true rfl) (Nat.le_refl _) (fun _ => ?_)
  show zt l g (d + 1) M_X8_passes 0 [.ref 164, .int (zb p0)] [] s (zKz K)
  refine z_iload_n (i := 1) dX8_passes_0 rfl rfl rfl ?_
  refine z_ifb_ne (pt := 22) dX8_passes_1 (by decide) rfl (fun c => ?_) (fun c => ?_)
  · have h := zit h c
    refine z_aload_n (i := 0) dX8_passes_22 rfl rfl rfl ?_
    refine z_callV k_X8_next m_X8_341 (zRec_of i_164) rfl h rfl (Nat.le_of_ble_eq_true rfl) dX8_passes_23 zy200 rfl ?_
    rintro v s1 ⟨rfl, hRs1, h⟩
    show zt l g (d + 1) M_X8_passes 26 [.ref 164, .int (zb p0)] [] s1 _
    refine z_iconst (v := (1 : Int32)) dX8_passes_26 (by decide) rfl ?_
    exact z_ret (some (.int (zb true))) (Or.inr (Or.inl ⟨_, _, rfl, rfl, zb_nar _, dX8_passes_27⟩)) zN200 ⟨_, rfl, h⟩
  · have h := zif h (by rw [c]; exact Bool.false_ne_true)
    refine z_aload_n (i := 0) dX8_passes_4 rfl rfl rfl ?_
    refine z_getI (x := s.1 164 32) rfl f_X8_338 i_164 rfl dX8_passes_5 rfl ?_
    refine z_iconst (v := (-1 : Int32)) dX8_passes_8 (by decide) rfl ?_
    refine z_icmp_ne (pt := 20) dX8_passes_9 (by decide) rfl (fun c => ?_) (fun c => ?_)
    · have h := zif h c
      refine z_iconst (v := (0 : Int32)) dX8_passes_20 (by decide) rfl ?_
      exact z_ret (some (.int (zb false))) (Or.inr (Or.inl ⟨_, _, rfl, rfl, zb_nar _, dX8_passes_21⟩)) zN200 ⟨_, rfl, h⟩
    · have h := zit h c
      refine z_aload_n (i := 0) dX8_passes_12 rfl rfl rfl ?_
      refine z_aload_n (i := 0) dX8_passes_13 rfl rfl rfl ?_
      refine z_getI (x := s.1 164 30) rfl f_X8_332 i_164 rfl dX8_passes_14 rfl ?_
      refine z_putI f_X8_338 i_164 rfl (Or.inl rfl) rfl rfl dX8_passes_17 rfl ?_
      refine z_iconst (v := (0 : Int32)) dX8_passes_20 (by decide) rfl ?_
      exact z_ret (some (.int (zb false))) (Or.inr (Or.inl ⟨_, _, rfl, rfl, zb_nar _, dX8_passes_21⟩)) zN200 ⟨_, rfl, h⟩
theorem dX8_isWord_0 : decode cX8_isWord 0 = .ok (.aload_n 0, 1) := by decide +kernel
theorem dX8_isWord_1 : decode cX8_isWord 1 = .ok (.getfield 332, 3) := by decide +kernel
theorem dX8_isWord_4 : decode cX8_isWord 4 = .ok (.aload_n 0, 1) := by decide +kernel
theorem dX8_isWord_5 : decode cX8_isWord 5 = .ok (.getfield 322, 3) := by decide +kernel
theorem dX8_isWord_8 : decode cX8_isWord 8 = .ok (.if_icmp .eq 19, 3) := by decide +kernel
theorem dX8_isWord_11 : decode cX8_isWord 11 = .ok (.aload_n 0, 1) := by decide +kernel
theorem dX8_isWord_12 : decode cX8_isWord 12 = .ok (.getfield 329, 3) := by decide +kernel
theorem dX8_isWord_15 : decode cX8_isWord 15 = .ok (.aload_n 0, 1) := by decide +kernel
theorem dX8_isWord_16 : decode cX8_isWord 16 = .ok (.getfield 332, 3) := by decide +kernel
theorem dX8_isWord_19 : decode cX8_isWord 19 = .ok (.isub, 1) := by decide +kernel
theorem dX8_isWord_20 : decode cX8_isWord 20 = .ok (.aload_n 1, 1) := by decide +kernel
theorem dX8_isWord_21 : decode cX8_isWord 21 = .ok (.invokevirtual 344, 3) := by decide +kernel
theorem dX8_isWord_24 : decode cX8_isWord 24 = .ok (.if_icmp .eq 5, 3) := by decide +kernel
theorem dX8_isWord_27 : decode cX8_isWord 27 = .ok (.iconst 0, 1) := by decide +kernel
theorem dX8_isWord_28 : decode cX8_isWord 28 = .ok (.ireturn, 1) := by decide +kernel
theorem dX8_isWord_29 : decode cX8_isWord 29 = .ok (.aload_n 0, 1) := by decide +kernel
theorem dX8_isWord_30 : decode cX8_isWord 30 = .ok (.getfield 332, 3) := by decide +kernel
theorem dX8_isWord_33 : decode cX8_isWord 33 = .ok (.istore_n 2, 1) := by decide +kernel
theorem dX8_isWord_34 : decode cX8_isWord 34 = .ok (.iload_n 2, 1) := by decide +kernel
theorem dX8_isWord_35 : decode cX8_isWord 35 = .ok (.aload_n 0, 1) := by decide +kernel
theorem dX8_isWord_36 : decode cX8_isWord 36 = .ok (.getfield 329, 3) := by decide +kernel
theorem dX8_isWord_39 : decode cX8_isWord 39 = .ok (.if_icmp .ge 30, 3) := by decide +kernel
theorem dX8_isWord_42 : decode cX8_isWord 42 = .ok (.aload_n 0, 1) := by decide +kernel
theorem dX8_isWord_43 : decode cX8_isWord 43 = .ok (.getfield 76, 3) := by decide +kernel
theorem dX8_isWord_46 : decode cX8_isWord 46 = .ok (.iload_n 2, 1) := by decide +kernel
theorem dX8_isWord_47 : decode cX8_isWord 47 = .ok (.baload, 1) := by decide +kernel
theorem dX8_isWord_48 : decode cX8_isWord 48 = .ok (.aload_n 1, 1) := by decide +kernel
theorem dX8_isWord_49 : decode cX8_isWord 49 = .ok (.iload_n 2, 1) := by decide +kernel
theorem dX8_isWord_50 : decode cX8_isWord 50 = .ok (.aload_n 0, 1) := by decide +kernel
theorem dX8_isWord_51 : decode cX8_isWord 51 = .ok (.getfield 332, 3) := by decide +kernel
theorem dX8_isWord_54 : decode cX8_isWord 54 = .ok (.isub, 1) := by decide +kernel
theorem dX8_isWord_55 : decode cX8_isWord 55 = .ok (.invokevirtual 348, 3) := by decide +kernel
theorem dX8_isWord_58 : decode cX8_isWord 58 = .ok (.if_icmp .eq 5, 3) := by decide +kernel
theorem dX8_isWord_61 : decode cX8_isWord 61 = .ok (.iconst 0, 1) := by decide +kernel
theorem dX8_isWord_62 : decode cX8_isWord 62 = .ok (.ireturn, 1) := by decide +kernel
theorem dX8_isWord_63 : decode cX8_isWord 63 = .ok (.iinc 2 1, 3) := by decide +kernel
theorem dX8_isWord_66 : decode cX8_isWord 66 = .ok (.goto (-32), 3) := by decide +kernel
theorem dX8_isWord_69 : decode cX8_isWord 69 = .ok (.iconst 1, 1) := by decide +kernel
theorem dX8_isWord_70 : decode cX8_isWord 70 = .ok (.ireturn, 1) := by decide +kernel
set_option maxHeartbeats 4000000 in
set_option maxRecDepth 100000 in
theorem t_X8_isWord {l : Launch} {g : zG} {d : Nat} {s : zS} (hR : zRok s) {p0 : Nat} (hp0 : p0 < 20) {K : Bool → zS → Prop} (h : (if (s.1 164 30) = (s.1 164 29) then K false s else (if ((s.1 164 31) - (s.1 164 30)) = (zslen p0) then zt l g (d + 5) M_X8_isWord 34 [.ref 164, .ref (2 + p0), .int (s.1 164 30)] [] s (zKz K) else K false s))) : zc l g (d + 5) M_X8_isWord [.ref 164, .ref (2 + p0)] s (zKz K) := by
  refine zCall_of k_X8_isWord (Nat.le_of_ble_eq_true rfl) (Nat.le_refl _) (fun _ => ?_)
  show zt l g (d + 5) M_X8_isWord 0 [.ref 164, .ref (2 + p0), zJ] [] s (zKz K)
  refine z_aload_n (i := 0) dX8_isWord_0 rfl rfl rfl ?_
  refine z_getI (x := s.1 164 30) rfl f_X8_332 i_164 rfl dX8_isWord_1 rfl ?_
  refine z_aload_n (i := 0) dX8_isWord_4 rfl rfl rfl ?_
  refine z_getI (x := s.1 164 29) rfl f_X8_322 i_164 rfl dX8_isWord_5 rfl ?_
  refine z_icmp_eq (pt := 27) dX8_isWord_8 (by decide) rfl (fun c => ?_) (fun c => ?_)
  · have h := zit h c
    refine z_iconst (v := (0 : Int32)) dX8_isWord_27 (by decide) rfl ?_
    exact z_ret (some (.int (zb false))) (Or.inr (Or.inl ⟨_, _, rfl, rfl, zb_nar _, dX8_isWord_28⟩)) zN200 ⟨_, rfl, h⟩
  · have h := zif h c
    refine z_aload_n (i := 0) dX8_isWord_11 rfl rfl rfl ?_
    refine z_getI (x := s.1 164 31) rfl f_X8_329 i_164 rfl dX8_isWord_12 rfl ?_
    refine z_aload_n (i := 0) dX8_isWord_15 rfl rfl rfl ?_
    refine z_getI (x := s.1 164 30) rfl f_X8_332 i_164 rfl dX8_isWord_16 rfl ?_
    refine z_isub dX8_isWord_19 rfl ?_
    refine z_aload_n (i := 1) dX8_isWord_20 rfl rfl rfl ?_
    refine z_slen m_X8_344 hp0 dX8_isWord_21 (Nat.le_of_ble_eq_true rfl) rfl ?_
    refine z_icmp_eq (pt := 29) dX8_isWord_24 (by decide) rfl (fun c => ?_) (fun c => ?_)
    · have h := zit h c
      refine z_aload_n (i := 0) dX8_isWord_29 rfl rfl rfl ?_
      refine z_getI (x := s.1 164 30) rfl f_X8_332 i_164 rfl dX8_isWord_30 rfl ?_
      refine z_istore_n (i := 2) dX8_isWord_33 rfl (by decide) (zokd rfl) rfl ?_
      show zt l g (d + 5) M_X8_isWord 34 [.ref 164, .ref (2 + p0), .int (s.1 164 30)] [] s _
      exact h
    · have h := zif h c
      refine z_iconst (v := (0 : Int32)) dX8_isWord_27 (by decide) rfl ?_
      exact z_ret (some (.int (zb false))) (Or.inr (Or.inl ⟨_, _, rfl, rfl, zb_nar _, dX8_isWord_28⟩)) zN200 ⟨_, rfl, h⟩
set_option maxHeartbeats 4000000 in
set_option maxRecDepth 100000 in
theorem t_X8_isWord_34 {l : Launch} {g : zG} {d : Nat} {s : zS} (hR : zRok s) {x1 : Nat} (hx1 : x1 < 20) {x2 : Int32} {K : Bool → zS → Prop} (h : (if (s.1 164 31) ≤ x2 then K true s else (vp_in x2 400 ∧ (vp_in (x2 - (s.1 164 30)) (zSl.getD x1 0) ∧ (if (s.1 244 x2.toNatClampNeg) = (zsch x1 (x2 - (s.1 164 30)).toNatClampNeg) then zt l g (d + 5) M_X8_isWord 34 [.ref 164, .ref (2 + x1), .int (x2 + (1 : Int32))] [] s (zKz K) else K false s))))) : zt l g (d + 5) M_X8_isWord 34 [.ref 164, .ref (2 + x1), .int x2] [] s (zKz K) := by
  refine z_iload_n (i := 2) dX8_isWord_34 rfl rfl rfl ?_
  refine z_aload_n (i := 0) dX8_isWord_35 rfl rfl rfl ?_
  refine z_getI (x := s.1 164 31) rfl f_X8_329 i_164 rfl dX8_isWord_36 rfl ?_
  refine z_icmp_ge (pt := 69) dX8_isWord_39 (by decide) rfl (fun c => ?_) (fun c => ?_)
  · have h := zit h c
    refine z_iconst (v := (1 : Int32)) dX8_isWord_69 (by decide) rfl ?_
    exact z_ret (some (.int (zb true))) (Or.inr (Or.inl ⟨_, _, rfl, rfl, zb_nar _, dX8_isWord_70⟩)) zN200 ⟨_, rfl, h⟩
  · have h := zif h c
    refine z_aload_n (i := 0) dX8_isWord_42 rfl rfl rfl ?_
    refine z_getR (q := 244) f_X8_76 i_164 rfl (r_164_28 hR) (by decide) dX8_isWord_43 rfl ?_
    refine z_iload_n (i := 2) dX8_isWord_46 rfl rfl rfl ?_
    obtain ⟨a1, h⟩ := h
    have wa1 := vin a1
    refine z_bald (x := s.1 244 x2.toNatClampNeg) rfl a_244 a1 dX8_isWord_47 rfl ?_
    refine z_aload_n (i := 1) dX8_isWord_48 rfl rfl rfl ?_
    refine z_iload_n (i := 2) dX8_isWord_49 rfl rfl rfl ?_
    refine z_aload_n (i := 0) dX8_isWord_50 rfl rfl rfl ?_
    refine z_getI (x := s.1 164 30) rfl f_X8_332 i_164 rfl dX8_isWord_51 rfl ?_
    refine z_isub dX8_isWord_54 rfl ?_
    obtain ⟨a2, h⟩ := h
    refine z_schar m_X8_348 hx1 a2 dX8_isWord_55 (Nat.le_of_ble_eq_true rfl) rfl ?_
    refine z_icmp_eq (pt := 63) dX8_isWord_58 (by decide) rfl (fun c => ?_) (fun c => ?_)
    · have h := zit h c
      refine z_iinc (v := x2 + (1 : Int32)) dX8_isWord_63 rfl rfl (by decide) (zokd rfl) rfl ?_
      show zt l g (d + 5) M_X8_isWord 66 [.ref 164, .ref (2 + x1), .int (x2 + (1 : Int32))] [] s _
      refine z_goto (pn := 34) dX8_isWord_66 (by decide) ?_
      exact h
    · have h := zif h c
      refine z_iconst (v := (0 : Int32)) dX8_isWord_61 (by decide) rfl ?_
      exact z_ret (some (.int (zb false))) (Or.inr (Or.inl ⟨_, _, rfl, rfl, zb_nar _, dX8_isWord_62⟩)) zN200 ⟨_, rfl, h⟩
theorem dX8_isSign_0 : decode cX8_isSign 0 = .ok (.aload_n 0, 1) := by decide +kernel
theorem dX8_isSign_1 : decode cX8_isSign 1 = .ok (.getfield 332, 3) := by decide +kernel
theorem dX8_isSign_4 : decode cX8_isSign 4 = .ok (.aload_n 0, 1) := by decide +kernel
theorem dX8_isSign_5 : decode cX8_isSign 5 = .ok (.getfield 322, 3) := by decide +kernel
theorem dX8_isSign_8 : decode cX8_isSign 8 = .ok (.if_icmp .ge 20, 3) := by decide +kernel
theorem dX8_isSign_11 : decode cX8_isSign 11 = .ok (.aload_n 0, 1) := by decide +kernel
theorem dX8_isSign_12 : decode cX8_isSign 12 = .ok (.getfield 76, 3) := by decide +kernel
theorem dX8_isSign_15 : decode cX8_isSign 15 = .ok (.aload_n 0, 1) := by decide +kernel
theorem dX8_isSign_16 : decode cX8_isSign 16 = .ok (.getfield 332, 3) := by decide +kernel
theorem dX8_isSign_19 : decode cX8_isSign 19 = .ok (.baload, 1) := by decide +kernel
theorem dX8_isSign_20 : decode cX8_isSign 20 = .ok (.iload_n 1, 1) := by decide +kernel
theorem dX8_isSign_21 : decode cX8_isSign 21 = .ok (.if_icmp .ne 7, 3) := by decide +kernel
theorem dX8_isSign_24 : decode cX8_isSign 24 = .ok (.iconst 1, 1) := by decide +kernel
theorem dX8_isSign_25 : decode cX8_isSign 25 = .ok (.goto 4, 3) := by decide +kernel
theorem dX8_isSign_28 : decode cX8_isSign 28 = .ok (.iconst 0, 1) := by decide +kernel
theorem dX8_isSign_29 : decode cX8_isSign 29 = .ok (.ireturn, 1) := by decide +kernel
set_option maxHeartbeats 4000000 in
set_option maxRecDepth 100000 in
theorem t_X8_isSign {l : Launch} {g : zG} {d : Nat} {s : zS} (hR : zRok s) {p0 : Int32} {K : Bool → zS → Prop} (h : (if (s.1 164 29) ≤ (s.1 164 30) then K false s else (vp_in (s.1 164 30) 400 ∧ (if (s.1 244 ((s.1 164 30).toNatClampNeg)) = p0 then K true s else K false s)))) : zc l g d M_X8_isSign [.ref 164, .int p0] s (zKz K) := by
  refine zCall_of k_X8_isSign (Nat.le_of_ble_eq_true rfl) (Nat.le_refl _) (fun _ => ?_)
  show zt l g d M_X8_isSign 0 [.ref 164, .int p0] [] s (zKz K)
  refine z_aload_n (i := 0) dX8_isSign_0 rfl rfl rfl ?_
  refine z_getI (x := s.1 164 30) rfl f_X8_332 i_164 rfl dX8_isSign_1 rfl ?_
  refine z_aload_n (i := 0) dX8_isSign_4 rfl rfl rfl ?_
  refine z_getI (x := s.1 164 29) rfl f_X8_322 i_164 rfl dX8_isSign_5 rfl ?_
  refine z_icmp_ge (pt := 28) dX8_isSign_8 (by decide) rfl (fun c => ?_) (fun c => ?_)
  · have h := zit h c
    refine z_iconst (v := (0 : Int32)) dX8_isSign_28 (by decide) rfl ?_
    exact z_ret (some (.int (zb false))) (Or.inr (Or.inl ⟨_, _, rfl, rfl, zb_nar _, dX8_isSign_29⟩)) zN200 ⟨_, rfl, h⟩
  · have h := zif h c
    refine z_aload_n (i := 0) dX8_isSign_11 rfl rfl rfl ?_
    refine z_getR (q := 244) f_X8_76 i_164 rfl (r_164_28 hR) (by decide) dX8_isSign_12 rfl ?_
    refine z_aload_n (i := 0) dX8_isSign_15 rfl rfl rfl ?_
    refine z_getI (x := s.1 164 30) rfl f_X8_332 i_164 rfl dX8_isSign_16 rfl ?_
    obtain ⟨a1, h⟩ := h
    have wa1 := vin a1
    refine z_bald (x := s.1 244 ((s.1 164 30).toNatClampNeg)) rfl a_244 a1 dX8_isSign_19 rfl ?_
    refine z_iload_n (i := 1) dX8_isSign_20 rfl rfl rfl ?_
    refine z_icmp_ne (pt := 28) dX8_isSign_21 (by decide) rfl (fun c => ?_) (fun c => ?_)
    · have h := zif h c
      refine z_iconst (v := (0 : Int32)) dX8_isSign_28 (by decide) rfl ?_
      exact z_ret (some (.int (zb false))) (Or.inr (Or.inl ⟨_, _, rfl, rfl, zb_nar _, dX8_isSign_29⟩)) zN200 ⟨_, rfl, h⟩
    · have h := zit h c
      refine z_iconst (v := (1 : Int32)) dX8_isSign_24 (by decide) rfl ?_
      refine z_goto (pn := 29) dX8_isSign_25 (by decide) ?_
      exact z_ret (some (.int (zb true))) (Or.inr (Or.inl ⟨_, _, rfl, rfl, zb_nar _, dX8_isSign_29⟩)) zN200 ⟨_, rfl, h⟩
theorem dX8_mark_0 : decode cX8_mark 0 = .ok (.aload_n 0, 1) := by decide +kernel
theorem dX8_mark_1 : decode cX8_mark 1 = .ok (.getfield 80, 3) := by decide +kernel
theorem dX8_mark_4 : decode cX8_mark 4 = .ok (.iconst 1, 1) := by decide +kernel
theorem dX8_mark_5 : decode cX8_mark 5 = .ok (.aaload, 1) := by decide +kernel
theorem dX8_mark_6 : decode cX8_mark 6 = .ok (.aload_n 0, 1) := by decide +kernel
theorem dX8_mark_7 : decode cX8_mark 7 = .ok (.getfield 95, 3) := by decide +kernel
theorem dX8_mark_10 : decode cX8_mark 10 = .ok (.iconst 1, 1) := by decide +kernel
theorem dX8_mark_11 : decode cX8_mark 11 = .ok (.iaload, 1) := by decide +kernel
theorem dX8_mark_12 : decode cX8_mark 12 = .ok (.iload_n 1, 1) := by decide +kernel
theorem dX8_mark_13 : decode cX8_mark 13 = .ok (.iastore, 1) := by decide +kernel
theorem dX8_mark_14 : decode cX8_mark 14 = .ok (.aload_n 0, 1) := by decide +kernel
theorem dX8_mark_15 : decode cX8_mark 15 = .ok (.getfield 95, 3) := by decide +kernel
theorem dX8_mark_18 : decode cX8_mark 18 = .ok (.iconst 1, 1) := by decide +kernel
theorem dX8_mark_19 : decode cX8_mark 19 = .ok (.dup2, 1) := by decide +kernel
theorem dX8_mark_20 : decode cX8_mark 20 = .ok (.iaload, 1) := by decide +kernel
theorem dX8_mark_21 : decode cX8_mark 21 = .ok (.iconst 1, 1) := by decide +kernel
theorem dX8_mark_22 : decode cX8_mark 22 = .ok (.iadd, 1) := by decide +kernel
theorem dX8_mark_23 : decode cX8_mark 23 = .ok (.iastore, 1) := by decide +kernel
theorem dX8_mark_24 : decode cX8_mark 24 = .ok (.return_, 1) := by decide +kernel
set_option maxHeartbeats 4000000 in
set_option maxRecDepth 100000 in
theorem t_X8_mark {l : Launch} {g : zG} {d : Nat} {s : zS} (hR : zRok s) {p0 : Int32} {K : zS → Prop} (h : (vp_in (s.1 258 1) 420 ∧ K (zI (zI s 247 ((s.1 258 1).toNatClampNeg) p0) 258 1 ((s.1 258 1) + (1 : Int32))))) : zc l g d M_X8_mark [.ref 164, .int p0] s (zKv K) := by
  refine zCall_of k_X8_mark (Nat.le_of_ble_eq_true rfl) (Nat.le_refl _) (fun _ => ?_)
  show zt l g d M_X8_mark 0 [.ref 164, .int p0] [] s (zKv K)
  refine z_aload_n (i := 0) dX8_mark_0 rfl rfl rfl ?_
  refine z_getR (q := 245) f_X8_80 i_164 rfl (r_164_33 hR) (by decide) dX8_mark_1 rfl ?_
  refine z_iconst (v := (1 : Int32)) dX8_mark_4 (by decide) rfl ?_
  refine z_aald (q := 247) (by decide) a_245 (by unfold vp_in; decide) (by have := hR.1 245 1 (by decide); exact this) (by decide) dX8_mark_5 rfl ?_
  refine z_aload_n (i := 0) dX8_mark_6 rfl rfl rfl ?_
  refine z_getR (q := 258) f_X8_95 i_164 rfl (r_164_38 hR) (by decide) dX8_mark_7 rfl ?_
  refine z_iconst (v := (1 : Int32)) dX8_mark_10 (by decide) rfl ?_
  refine z_iald (x := s.1 258 1) rfl a_258 (by unfold vp_in; decide) dX8_mark_11 rfl ?_
  refine z_iload_n (i := 1) dX8_mark_12 rfl rfl rfl ?_
  obtain ⟨a1, h⟩ := h
  have wa1 := vin a1
  refine z_iast a_247 a1 dX8_mark_13 rfl ?_
  show zt l g d M_X8_mark 14 [.ref 164, .int p0] [] (zI s 247 ((s.1 258 1).toNatClampNeg) p0) _
  refine z_aload_n (i := 0) dX8_mark_14 rfl rfl rfl ?_
  refine z_getR (q := 258) f_X8_95 i_164 rfl (r_164_38 hR) (by decide) dX8_mark_15 rfl ?_
  refine z_iconst (v := (1 : Int32)) dX8_mark_18 (by decide) rfl ?_
  refine z_dup2 dX8_mark_19 rfl rfl rfl ?_
  refine z_iald (x := s.1 258 1) (zI_o (by decide)) a_258 (by unfold vp_in; decide) dX8_mark_20 rfl ?_
  refine z_iconst (v := (1 : Int32)) dX8_mark_21 (by decide) rfl ?_
  refine z_iadd dX8_mark_22 rfl ?_
  refine z_iast a_258 (by unfold vp_in; decide) dX8_mark_23 rfl ?_
  show zt l g d M_X8_mark 24 [.ref 164, .int p0] [] (zI (zI s 247 ((s.1 258 1).toNatClampNeg) p0) 258 1 ((s.1 258 1) + (1 : Int32))) _
  exact z_ret none (Or.inl ⟨rfl, rfl, dX8_mark_24⟩) zN200 ⟨rfl, h⟩
theorem dX8_factor_0 : decode cX8_factor 0 = .ok (.aload_n 0, 1) := by decide +kernel
theorem dX8_factor_1 : decode cX8_factor 1 = .ok (.bipush 40, 2) := by decide +kernel
theorem dX8_factor_3 : decode cX8_factor 3 = .ok (.invokevirtual 352, 3) := by decide +kernel
theorem dX8_factor_6 : decode cX8_factor 6 = .ok (.ifCond .eq 50, 3) := by decide +kernel
theorem dX8_factor_9 : decode cX8_factor 9 = .ok (.aload_n 0, 1) := by decide +kernel
theorem dX8_factor_10 : decode cX8_factor 10 = .ok (.iload_n 1, 1) := by decide +kernel
theorem dX8_factor_11 : decode cX8_factor 11 = .ok (.bipush 8, 2) := by decide +kernel
theorem dX8_factor_13 : decode cX8_factor 13 = .ok (.if_icmp .ge 7, 3) := by decide +kernel
theorem dX8_factor_16 : decode cX8_factor 16 = .ok (.iconst 1, 1) := by decide +kernel
theorem dX8_factor_17 : decode cX8_factor 17 = .ok (.goto 4, 3) := by decide +kernel
theorem dX8_factor_20 : decode cX8_factor 20 = .ok (.iconst 0, 1) := by decide +kernel
theorem dX8_factor_21 : decode cX8_factor 21 = .ok (.invokevirtual 355, 3) := by decide +kernel
theorem dX8_factor_24 : decode cX8_factor 24 = .ok (.ifCond .eq 30, 3) := by decide +kernel
theorem dX8_factor_27 : decode cX8_factor 27 = .ok (.aload_n 0, 1) := by decide +kernel
theorem dX8_factor_28 : decode cX8_factor 28 = .ok (.iload_n 1, 1) := by decide +kernel
theorem dX8_factor_29 : decode cX8_factor 29 = .ok (.iconst 1, 1) := by decide +kernel
theorem dX8_factor_30 : decode cX8_factor 30 = .ok (.iadd, 1) := by decide +kernel
theorem dX8_factor_31 : decode cX8_factor 31 = .ok (.invokevirtual 359, 3) := by decide +kernel
theorem dX8_factor_34 : decode cX8_factor 34 = .ok (.ifCond .eq 20, 3) := by decide +kernel
theorem dX8_factor_37 : decode cX8_factor 37 = .ok (.aload_n 0, 1) := by decide +kernel
theorem dX8_factor_38 : decode cX8_factor 38 = .ok (.aload_n 0, 1) := by decide +kernel
theorem dX8_factor_39 : decode cX8_factor 39 = .ok (.bipush 41, 2) := by decide +kernel
theorem dX8_factor_41 : decode cX8_factor 41 = .ok (.invokevirtual 352, 3) := by decide +kernel
theorem dX8_factor_44 : decode cX8_factor 44 = .ok (.invokevirtual 355, 3) := by decide +kernel
theorem dX8_factor_47 : decode cX8_factor 47 = .ok (.ifCond .eq 7, 3) := by decide +kernel
theorem dX8_factor_50 : decode cX8_factor 50 = .ok (.iconst 1, 1) := by decide +kernel
theorem dX8_factor_51 : decode cX8_factor 51 = .ok (.goto 4, 3) := by decide +kernel
theorem dX8_factor_54 : decode cX8_factor 54 = .ok (.iconst 0, 1) := by decide +kernel
theorem dX8_factor_55 : decode cX8_factor 55 = .ok (.ireturn, 1) := by decide +kernel
theorem dX8_factor_56 : decode cX8_factor 56 = .ok (.aload_n 0, 1) := by decide +kernel
theorem dX8_factor_57 : decode cX8_factor 57 = .ok (.aload_n 0, 1) := by decide +kernel
theorem dX8_factor_58 : decode cX8_factor 58 = .ok (.getfield 332, 3) := by decide +kernel
theorem dX8_factor_61 : decode cX8_factor 61 = .ok (.bipush 48, 2) := by decide +kernel
theorem dX8_factor_63 : decode cX8_factor 63 = .ok (.bipush 57, 2) := by decide +kernel
theorem dX8_factor_65 : decode cX8_factor 65 = .ok (.invokevirtual 335, 3) := by decide +kernel
theorem dX8_factor_68 : decode cX8_factor 68 = .ok (.ifCond .eq 78, 3) := by decide +kernel
theorem dX8_factor_71 : decode cX8_factor 71 = .ok (.iconst 0, 1) := by decide +kernel
theorem dX8_factor_72 : decode cX8_factor 72 = .ok (.istore_n 2, 1) := by decide +kernel
theorem dX8_factor_73 : decode cX8_factor 73 = .ok (.aload_n 0, 1) := by decide +kernel
theorem dX8_factor_74 : decode cX8_factor 74 = .ok (.getfield 332, 3) := by decide +kernel
theorem dX8_factor_77 : decode cX8_factor 77 = .ok (.istore_n 3, 1) := by decide +kernel
theorem dX8_factor_78 : decode cX8_factor 78 = .ok (.iload_n 3, 1) := by decide +kernel
theorem dX8_factor_79 : decode cX8_factor 79 = .ok (.aload_n 0, 1) := by decide +kernel
theorem dX8_factor_80 : decode cX8_factor 80 = .ok (.getfield 329, 3) := by decide +kernel
theorem dX8_factor_83 : decode cX8_factor 83 = .ok (.if_icmp .ge 35, 3) := by decide +kernel
theorem dX8_factor_86 : decode cX8_factor 86 = .ok (.iload_n 2, 1) := by decide +kernel
theorem dX8_factor_87 : decode cX8_factor 87 = .ok (.sipush 9999, 3) := by decide +kernel
theorem dX8_factor_90 : decode cX8_factor 90 = .ok (.if_icmp .le 7, 3) := by decide +kernel
theorem dX8_factor_93 : decode cX8_factor 93 = .ok (.iload_n 2, 1) := by decide +kernel
theorem dX8_factor_94 : decode cX8_factor 94 = .ok (.goto 17, 3) := by decide +kernel
theorem dX8_factor_97 : decode cX8_factor 97 = .ok (.bipush 10, 2) := by decide +kernel
theorem dX8_factor_99 : decode cX8_factor 99 = .ok (.iload_n 2, 1) := by decide +kernel
theorem dX8_factor_100 : decode cX8_factor 100 = .ok (.imul, 1) := by decide +kernel
theorem dX8_factor_101 : decode cX8_factor 101 = .ok (.aload_n 0, 1) := by decide +kernel
theorem dX8_factor_102 : decode cX8_factor 102 = .ok (.getfield 76, 3) := by decide +kernel
theorem dX8_factor_105 : decode cX8_factor 105 = .ok (.iload_n 3, 1) := by decide +kernel
theorem dX8_factor_106 : decode cX8_factor 106 = .ok (.baload, 1) := by decide +kernel
theorem dX8_factor_107 : decode cX8_factor 107 = .ok (.iadd, 1) := by decide +kernel
theorem dX8_factor_108 : decode cX8_factor 108 = .ok (.bipush 48, 2) := by decide +kernel
theorem dX8_factor_110 : decode cX8_factor 110 = .ok (.isub, 1) := by decide +kernel
theorem dX8_factor_111 : decode cX8_factor 111 = .ok (.istore_n 2, 1) := by decide +kernel
theorem dX8_factor_112 : decode cX8_factor 112 = .ok (.iinc 3 1, 3) := by decide +kernel
theorem dX8_factor_115 : decode cX8_factor 115 = .ok (.goto (-37), 3) := by decide +kernel
theorem dX8_factor_118 : decode cX8_factor 118 = .ok (.aload_n 0, 1) := by decide +kernel
theorem dX8_factor_119 : decode cX8_factor 119 = .ok (.iload_n 2, 1) := by decide +kernel
theorem dX8_factor_120 : decode cX8_factor 120 = .ok (.sipush 9999, 3) := by decide +kernel
theorem dX8_factor_123 : decode cX8_factor 123 = .ok (.if_icmp .gt 7, 3) := by decide +kernel
theorem dX8_factor_126 : decode cX8_factor 126 = .ok (.iconst 1, 1) := by decide +kernel
theorem dX8_factor_127 : decode cX8_factor 127 = .ok (.goto 4, 3) := by decide +kernel
theorem dX8_factor_130 : decode cX8_factor 130 = .ok (.iconst 0, 1) := by decide +kernel
theorem dX8_factor_131 : decode cX8_factor 131 = .ok (.invokevirtual 355, 3) := by decide +kernel
theorem dX8_factor_134 : decode cX8_factor 134 = .ok (.ifCond .ne 5, 3) := by decide +kernel
theorem dX8_factor_137 : decode cX8_factor 137 = .ok (.iconst 0, 1) := by decide +kernel
theorem dX8_factor_138 : decode cX8_factor 138 = .ok (.ireturn, 1) := by decide +kernel
theorem dX8_factor_139 : decode cX8_factor 139 = .ok (.aload_n 0, 1) := by decide +kernel
theorem dX8_factor_140 : decode cX8_factor 140 = .ok (.iload_n 2, 1) := by decide +kernel
theorem dX8_factor_141 : decode cX8_factor 141 = .ok (.invokevirtual 362, 3) := by decide +kernel
theorem dX8_factor_144 : decode cX8_factor 144 = .ok (.iconst 1, 1) := by decide +kernel
theorem dX8_factor_145 : decode cX8_factor 145 = .ok (.ireturn, 1) := by decide +kernel
theorem dX8_factor_146 : decode cX8_factor 146 = .ok (.iconst (-1), 1) := by decide +kernel
theorem dX8_factor_147 : decode cX8_factor 147 = .ok (.istore_n 2, 1) := by decide +kernel
theorem dX8_factor_148 : decode cX8_factor 148 = .ok (.iconst 0, 1) := by decide +kernel
theorem dX8_factor_149 : decode cX8_factor 149 = .ok (.istore_n 3, 1) := by decide +kernel
theorem dX8_factor_150 : decode cX8_factor 150 = .ok (.iload_n 3, 1) := by decide +kernel
theorem dX8_factor_151 : decode cX8_factor 151 = .ok (.bipush 7, 2) := by decide +kernel
theorem dX8_factor_153 : decode cX8_factor 153 = .ok (.if_icmp .ge 24, 3) := by decide +kernel
theorem dX8_factor_156 : decode cX8_factor 156 = .ok (.aload_n 0, 1) := by decide +kernel
theorem dX8_factor_157 : decode cX8_factor 157 = .ok (.aload_n 0, 1) := by decide +kernel
theorem dX8_factor_158 : decode cX8_factor 158 = .ok (.getfield 142, 3) := by decide +kernel
theorem dX8_factor_161 : decode cX8_factor 161 = .ok (.iload_n 3, 1) := by decide +kernel
theorem dX8_factor_162 : decode cX8_factor 162 = .ok (.aaload, 1) := by decide +kernel
theorem dX8_factor_163 : decode cX8_factor 163 = .ok (.invokevirtual 365, 3) := by decide +kernel
theorem dX8_factor_166 : decode cX8_factor 166 = .ok (.ifCond .eq 5, 3) := by decide +kernel
theorem dX8_factor_169 : decode cX8_factor 169 = .ok (.iload_n 3, 1) := by decide +kernel
theorem dX8_factor_170 : decode cX8_factor 170 = .ok (.istore_n 2, 1) := by decide +kernel
theorem dX8_factor_171 : decode cX8_factor 171 = .ok (.iinc 3 1, 3) := by decide +kernel
theorem dX8_factor_174 : decode cX8_factor 174 = .ok (.goto (-24), 3) := by decide +kernel
theorem dX8_factor_177 : decode cX8_factor 177 = .ok (.aload_n 0, 1) := by decide +kernel
theorem dX8_factor_178 : decode cX8_factor 178 = .ok (.iload_n 2, 1) := by decide +kernel
theorem dX8_factor_179 : decode cX8_factor 179 = .ok (.iconst (-1), 1) := by decide +kernel
theorem dX8_factor_180 : decode cX8_factor 180 = .ok (.if_icmp .eq 7, 3) := by decide +kernel
theorem dX8_factor_183 : decode cX8_factor 183 = .ok (.iconst 1, 1) := by decide +kernel
theorem dX8_factor_184 : decode cX8_factor 184 = .ok (.goto 4, 3) := by decide +kernel
theorem dX8_factor_187 : decode cX8_factor 187 = .ok (.iconst 0, 1) := by decide +kernel
theorem dX8_factor_188 : decode cX8_factor 188 = .ok (.invokevirtual 355, 3) := by decide +kernel
theorem dX8_factor_191 : decode cX8_factor 191 = .ok (.ifCond .ne 5, 3) := by decide +kernel
theorem dX8_factor_194 : decode cX8_factor 194 = .ok (.iconst 0, 1) := by decide +kernel
theorem dX8_factor_195 : decode cX8_factor 195 = .ok (.ireturn, 1) := by decide +kernel
theorem dX8_factor_196 : decode cX8_factor 196 = .ok (.aload_n 0, 1) := by decide +kernel
theorem dX8_factor_197 : decode cX8_factor 197 = .ok (.sipush 10000, 3) := by decide +kernel
theorem dX8_factor_200 : decode cX8_factor 200 = .ok (.iload_n 2, 1) := by decide +kernel
theorem dX8_factor_201 : decode cX8_factor 201 = .ok (.iadd, 1) := by decide +kernel
theorem dX8_factor_202 : decode cX8_factor 202 = .ok (.invokevirtual 362, 3) := by decide +kernel
theorem dX8_factor_205 : decode cX8_factor 205 = .ok (.iconst 1, 1) := by decide +kernel
theorem dX8_factor_206 : decode cX8_factor 206 = .ok (.ireturn, 1) := by decide +kernel
set_option maxHeartbeats 4000000 in
set_option maxRecDepth 100000 in
theorem t_X8_factor {l : Launch} {g : zG} {d : Nat} {s : zS} (hR : zRok s) {p0 : Int32} {K : Bool → zS → Prop} (h : (zc l g d M_X8_isSign [.ref 164, .int (40 : Int32)] s (zKz (fun b2 s1 => s1.2.2.1 = s.2.2.1 ∧ (if b2 = true then (if (8 : Int32) ≤ p0 then (zc l g d M_X8_passes [.ref 164, .int (0 : Int32)] s1 (zKz (fun b6 s5 => s5.2.2.1 = s1.2.2.1 ∧ (if b6 = true then (zc l g d M_X8_sum [.ref 164, .int (p0 + (1 : Int32))] s5 (zKz (fun b8 s7 => s7.2.2.1 = s5.2.2.1 ∧ (if b8 = true then (zc l g d M_X8_isSign [.ref 164, .int (41 : Int32)] s7 (zKz (fun b10 s9 => s9.2.2.1 = s7.2.2.1 ∧ (zc l g d M_X8_passes [.ref 164, .int (zb b10)] s9 (zKz (fun b12 s11 => s11.2.2.1 = s9.2.2.1 ∧ (if b12 = true then K true s11 else K false s11))))))) else K false s7)))) else K false s5)))) else (zc l g d M_X8_passes [.ref 164, .int (1 : Int32)] s1 (zKz (fun b14 s13 => s13.2.2.1 = s1.2.2.1 ∧ (if b14 = true then (zc l g d M_X8_sum [.ref 164, .int (p0 + (1 : Int32))] s13 (zKz (fun b16 s15 => s15.2.2.1 = s13.2.2.1 ∧ (if b16 = true then (zc l g d M_X8_isSign [.ref 164, .int (41 : Int32)] s15 (zKz (fun b18 s17 => s17.2.2.1 = s15.2.2.1 ∧ (zc l g d M_X8_passes [.ref 164, .int (zb b18)] s17 (zKz (fun b20 s19 => s19.2.2.1 = s17.2.2.1 ∧ (if b20 = true then K true s19 else K false s19))))))) else K false s15)))) else K false s13))))) else (zc l g d M_X8_between [.ref 164, .int (s1.1 164 30), .int (48 : Int32), .int (57 : Int32)] s1 (zKz (fun b4 s3 => s3.2.2.1 = s1.2.2.1 ∧ (if b4 = true then zt l g (d + 1) M_X8_factor 78 [.ref 164, zJ, .int (0 : Int32), .int (s3.1 164 30)] [] s3 (zKz K) else zt l g (d + 1) M_X8_factor 150 [.ref 164, zJ, .int (-1 : Int32), .int (0 : Int32)] [] s3 (zKz K)))))))))) : zc l g (d + 1) M_X8_factor [.ref 164, .int p0] s (zKz K) := by
  refine zCall_of k_X8_factor (Nat.le_of_ble_eq_true rfl) (Nat.le_refl _) (fun _ => ?_)
  show zt l g (d + 1) M_X8_factor 0 [.ref 164, .int p0, zJ, zJ] [] s (zKz K)
  refine z_aload_n (i := 0) dX8_factor_0 rfl rfl rfl ?_
  refine z_bipush (v := (40 : Int32)) dX8_factor_1 (by decide) rfl ?_
  refine z_callV k_X8_isSign m_X8_352 (zRec_of i_164) rfl h rfl (Nat.le_of_ble_eq_true rfl) dX8_factor_3 zy200 rfl ?_
  rintro v s1 ⟨b2, rfl, hRs1, h⟩
  show zt l g (d + 1) M_X8_factor 6 [.ref 164, .int p0, zJ, zJ] [.int (zb b2)] s1 _
  refine z_ifb_eq (pt := 56) dX8_factor_6 (by decide) rfl (fun c => ?_) (fun c => ?_)
  · have h := zif h (by rw [c]; exact Bool.false_ne_true)
    refine z_aload_n (i := 0) dX8_factor_56 rfl rfl rfl ?_
    refine z_aload_n (i := 0) dX8_factor_57 rfl rfl rfl ?_
    refine z_getI (x := s1.1 164 30) rfl f_X8_332 i_164 rfl dX8_factor_58 rfl ?_
    refine z_bipush (v := (48 : Int32)) dX8_factor_61 (by decide) rfl ?_
    refine z_bipush (v := (57 : Int32)) dX8_factor_63 (by decide) rfl ?_
    refine z_callV k_X8_between m_X8_335 (zRec_of i_164) rfl h rfl (Nat.le_of_ble_eq_true rfl) dX8_factor_65 zy200 rfl ?_
    rintro v s3 ⟨b4, rfl, hRs3, h⟩
    show zt l g (d + 1) M_X8_factor 68 [.ref 164, .int p0, zJ, zJ] [.int (zb b4)] s3 _
    refine z_ifb_eq (pt := 146) dX8_factor_68 (by decide) rfl (fun c => ?_) (fun c => ?_)
    · have h := zif h (by rw [c]; exact Bool.false_ne_true)
      refine z_iconst (v := (-1 : Int32)) dX8_factor_146 (by decide) rfl ?_
      refine z_istore_n (i := 2) dX8_factor_147 rfl (by decide) (zokd rfl) rfl ?_
      show zt l g (d + 1) M_X8_factor 148 [.ref 164, .int p0, .int (-1 : Int32), zJ] [] s3 _
      refine z_iconst (v := (0 : Int32)) dX8_factor_148 (by decide) rfl ?_
      refine z_istore_n (i := 3) dX8_factor_149 rfl (by decide) (zokd rfl) rfl ?_
      show zt l g (d + 1) M_X8_factor 150 [.ref 164, .int p0, .int (-1 : Int32), .int (0 : Int32)] [] s3 _
      refine z_wk (ls' := [.ref 164, zJ, .int (-1 : Int32), .int (0 : Int32)]) ⟨Or.inr rfl, Or.inl rfl, Or.inr rfl, Or.inr rfl, trivial⟩ ?_
      exact h
    · have h := zit h c
      refine z_iconst (v := (0 : Int32)) dX8_factor_71 (by decide) rfl ?_
      refine z_istore_n (i := 2) dX8_factor_72 rfl (by decide) (zokd rfl) rfl ?_
      show zt l g (d + 1) M_X8_factor 73 [.ref 164, .int p0, .int (0 : Int32), zJ] [] s3 _
      refine z_aload_n (i := 0) dX8_factor_73 rfl rfl rfl ?_
      refine z_getI (x := s3.1 164 30) rfl f_X8_332 i_164 rfl dX8_factor_74 rfl ?_
      refine z_istore_n (i := 3) dX8_factor_77 rfl (by decide) (zokd rfl) rfl ?_
      show zt l g (d + 1) M_X8_factor 78 [.ref 164, .int p0, .int (0 : Int32), .int (s3.1 164 30)] [] s3 _
      refine z_wk (ls' := [.ref 164, zJ, .int (0 : Int32), .int (s3.1 164 30)]) ⟨Or.inr rfl, Or.inl rfl, Or.inr rfl, Or.inr rfl, trivial⟩ ?_
      exact h
  · have h := zit h c
    refine z_aload_n (i := 0) dX8_factor_9 rfl rfl rfl ?_
    refine z_iload_n (i := 1) dX8_factor_10 rfl rfl rfl ?_
    refine z_bipush (v := (8 : Int32)) dX8_factor_11 (by decide) rfl ?_
    refine z_icmp_ge (pt := 20) dX8_factor_13 (by decide) rfl (fun c => ?_) (fun c => ?_)
    · have h := zit h c
      refine z_iconst (v := (0 : Int32)) dX8_factor_20 (by decide) rfl ?_
      refine z_callV k_X8_passes m_X8_355 (zRec_of i_164) rfl h rfl (Nat.le_of_ble_eq_true rfl) dX8_factor_21 zy200 rfl ?_
      rintro v s5 ⟨b6, rfl, hRs5, h⟩
      show zt l g (d + 1) M_X8_factor 24 [.ref 164, .int p0, zJ, zJ] [.int (zb b6)] s5 _
      refine z_ifb_eq (pt := 54) dX8_factor_24 (by decide) rfl (fun c => ?_) (fun c => ?_)
      · have h := zif h (by rw [c]; exact Bool.false_ne_true)
        refine z_iconst (v := (0 : Int32)) dX8_factor_54 (by decide) rfl ?_
        exact z_ret (some (.int (zb false))) (Or.inr (Or.inl ⟨_, _, rfl, rfl, zb_nar _, dX8_factor_55⟩)) zN200 ⟨_, rfl, h⟩
      · have h := zit h c
        refine z_aload_n (i := 0) dX8_factor_27 rfl rfl rfl ?_
        refine z_iload_n (i := 1) dX8_factor_28 rfl rfl rfl ?_
        refine z_iconst (v := (1 : Int32)) dX8_factor_29 (by decide) rfl ?_
        refine z_iadd dX8_factor_30 rfl ?_
        refine z_callV k_X8_sum m_X8_359 (zRec_of i_164) rfl h rfl (Nat.le_of_ble_eq_true rfl) dX8_factor_31 zy200 rfl ?_
        rintro v s7 ⟨b8, rfl, hRs7, h⟩
        show zt l g (d + 1) M_X8_factor 34 [.ref 164, .int p0, zJ, zJ] [.int (zb b8)] s7 _
        refine z_ifb_eq (pt := 54) dX8_factor_34 (by decide) rfl (fun c => ?_) (fun c => ?_)
        · have h := zif h (by rw [c]; exact Bool.false_ne_true)
          refine z_iconst (v := (0 : Int32)) dX8_factor_54 (by decide) rfl ?_
          exact z_ret (some (.int (zb false))) (Or.inr (Or.inl ⟨_, _, rfl, rfl, zb_nar _, dX8_factor_55⟩)) zN200 ⟨_, rfl, h⟩
        · have h := zit h c
          refine z_aload_n (i := 0) dX8_factor_37 rfl rfl rfl ?_
          refine z_aload_n (i := 0) dX8_factor_38 rfl rfl rfl ?_
          refine z_bipush (v := (41 : Int32)) dX8_factor_39 (by decide) rfl ?_
          refine z_callV k_X8_isSign m_X8_352 (zRec_of i_164) rfl h rfl (Nat.le_of_ble_eq_true rfl) dX8_factor_41 zy200 rfl ?_
          rintro v s9 ⟨b10, rfl, hRs9, h⟩
          show zt l g (d + 1) M_X8_factor 44 [.ref 164, .int p0, zJ, zJ] [.int (zb b10), .ref 164] s9 _
          refine z_callV k_X8_passes m_X8_355 (zRec_of i_164) rfl h rfl (Nat.le_of_ble_eq_true rfl) dX8_factor_44 zy200 rfl ?_
          rintro v s11 ⟨b12, rfl, hRs11, h⟩
          show zt l g (d + 1) M_X8_factor 47 [.ref 164, .int p0, zJ, zJ] [.int (zb b12)] s11 _
          refine z_ifb_eq (pt := 54) dX8_factor_47 (by decide) rfl (fun c => ?_) (fun c => ?_)
          · have h := zif h (by rw [c]; exact Bool.false_ne_true)
            refine z_iconst (v := (0 : Int32)) dX8_factor_54 (by decide) rfl ?_
            exact z_ret (some (.int (zb false))) (Or.inr (Or.inl ⟨_, _, rfl, rfl, zb_nar _, dX8_factor_55⟩)) zN200 ⟨_, rfl, h⟩
          · have h := zit h c
            refine z_iconst (v := (1 : Int32)) dX8_factor_50 (by decide) rfl ?_
            refine z_goto (pn := 55) dX8_factor_51 (by decide) ?_
            exact z_ret (some (.int (zb true))) (Or.inr (Or.inl ⟨_, _, rfl, rfl, zb_nar _, dX8_factor_55⟩)) zN200 ⟨_, rfl, h⟩
    · have h := zif h c
      refine z_iconst (v := (1 : Int32)) dX8_factor_16 (by decide) rfl ?_
      refine z_goto (pn := 21) dX8_factor_17 (by decide) ?_
      refine z_callV k_X8_passes m_X8_355 (zRec_of i_164) rfl h rfl (Nat.le_of_ble_eq_true rfl) dX8_factor_21 zy200 rfl ?_
      rintro v s13 ⟨b14, rfl, hRs13, h⟩
      show zt l g (d + 1) M_X8_factor 24 [.ref 164, .int p0, zJ, zJ] [.int (zb b14)] s13 _
      refine z_ifb_eq (pt := 54) dX8_factor_24 (by decide) rfl (fun c => ?_) (fun c => ?_)
      · have h := zif h (by rw [c]; exact Bool.false_ne_true)
        refine z_iconst (v := (0 : Int32)) dX8_factor_54 (by decide) rfl ?_
        exact z_ret (some (.int (zb false))) (Or.inr (Or.inl ⟨_, _, rfl, rfl, zb_nar _, dX8_factor_55⟩)) zN200 ⟨_, rfl, h⟩
      · have h := zit h c
        refine z_aload_n (i := 0) dX8_factor_27 rfl rfl rfl ?_
        refine z_iload_n (i := 1) dX8_factor_28 rfl rfl rfl ?_
        refine z_iconst (v := (1 : Int32)) dX8_factor_29 (by decide) rfl ?_
        refine z_iadd dX8_factor_30 rfl ?_
        refine z_callV k_X8_sum m_X8_359 (zRec_of i_164) rfl h rfl (Nat.le_of_ble_eq_true rfl) dX8_factor_31 zy200 rfl ?_
        rintro v s15 ⟨b16, rfl, hRs15, h⟩
        show zt l g (d + 1) M_X8_factor 34 [.ref 164, .int p0, zJ, zJ] [.int (zb b16)] s15 _
        refine z_ifb_eq (pt := 54) dX8_factor_34 (by decide) rfl (fun c => ?_) (fun c => ?_)
        · have h := zif h (by rw [c]; exact Bool.false_ne_true)
          refine z_iconst (v := (0 : Int32)) dX8_factor_54 (by decide) rfl ?_
          exact z_ret (some (.int (zb false))) (Or.inr (Or.inl ⟨_, _, rfl, rfl, zb_nar _, dX8_factor_55⟩)) zN200 ⟨_, rfl, h⟩
        · have h := zit h c
          refine z_aload_n (i := 0) dX8_factor_37 rfl rfl rfl ?_
          refine z_aload_n (i := 0) dX8_factor_38 rfl rfl rfl ?_
          refine z_bipush (v := (41 : Int32)) dX8_factor_39 (by decide) rfl ?_
          refine z_callV k_X8_isSign m_X8_352 (zRec_of i_164) rfl h rfl (Nat.le_of_ble_eq_true rfl) dX8_factor_41 zy200 rfl ?_
          rintro v s17 ⟨b18, rfl, hRs17, h⟩
          show zt l g (d + 1) M_X8_factor 44 [.ref 164, .int p0, zJ, zJ] [.int (zb b18), .ref 164] s17 _
          refine z_callV k_X8_passes m_X8_355 (zRec_of i_164) rfl h rfl (Nat.le_of_ble_eq_true rfl) dX8_factor_44 zy200 rfl ?_
          rintro v s19 ⟨b20, rfl, hRs19, h⟩
          show zt l g (d + 1) M_X8_factor 47 [.ref 164, .int p0, zJ, zJ] [.int (zb b20)] s19 _
          refine z_ifb_eq (pt := 54) dX8_factor_47 (by decide) rfl (fun c => ?_) (fun c => ?_)
          · have h := zif h (by rw [c]; exact Bool.false_ne_true)
            refine z_iconst (v := (0 : Int32)) dX8_factor_54 (by decide) rfl ?_
            exact z_ret (some (.int (zb false))) (Or.inr (Or.inl ⟨_, _, rfl, rfl, zb_nar _, dX8_factor_55⟩)) zN200 ⟨_, rfl, h⟩
          · have h := zit h c
            refine z_iconst (v := (1 : Int32)) dX8_factor_50 (by decide) rfl ?_
            refine z_goto (pn := 55) dX8_factor_51 (by decide) ?_
            exact z_ret (some (.int (zb true))) (Or.inr (Or.inl ⟨_, _, rfl, rfl, zb_nar _, dX8_factor_55⟩)) zN200 ⟨_, rfl, h⟩
set_option maxHeartbeats 4000000 in
set_option maxRecDepth 100000 in
theorem t_X8_factor_150 {l : Launch} {g : zG} {d : Nat} {s : zS} (hR : zRok s) {x2 : Int32} {x3 : Int32} {K : Bool → zS → Prop} (h : (if (7 : Int32) ≤ x3 then (if x2 = (-1 : Int32) then (zc l g d M_X8_passes [.ref 164, .int (0 : Int32)] s (zKz (fun b2 s1 => s1.2.2.1 = s.2.2.1 ∧ (if b2 = true then (zc l g d M_X8_mark [.ref 164, .int ((10000 : Int32) + x2)] s1 (zKv (fun s3 => s3.2.2.1 = s1.2.2.1 ∧ K true s3))) else K false s1)))) else (zc l g d M_X8_passes [.ref 164, .int (1 : Int32)] s (zKz (fun b5 s4 => s4.2.2.1 = s.2.2.1 ∧ (if b5 = true then (zc l g d M_X8_mark [.ref 164, .int ((10000 : Int32) + x2)] s4 (zKv (fun s6 => s6.2.2.1 = s4.2.2.1 ∧ K true s6))) else K false s4))))) else (vp_in x3 7 ∧ (zc l g d M_X8_isWord [.ref 164, .ref (2 + (9 + x3.toNatClampNeg))] s (zKz (fun b9 s8 => s8.2.2.1 = s.2.2.1 ∧ (if b9 = true then zt l g (d + 1) M_X8_factor 150 [.ref 164, zJ, .int x3, .int (x3 + (1 : Int32))] [] s8 (zKz K) else zt l g (d + 1) M_X8_factor 150 [.ref 164, zJ, .int x2, .int (x3 + (1 : Int32))] [] s8 (zKz K)))))))) : zt l g (d + 1) M_X8_factor 150 [.ref 164, zJ, .int x2, .int x3] [] s (zKz K) := by
  refine z_iload_n (i := 3) dX8_factor_150 rfl rfl rfl ?_
  refine z_bipush (v := (7 : Int32)) dX8_factor_151 (by decide) rfl ?_
  refine z_icmp_ge (pt := 177) dX8_factor_153 (by decide) rfl (fun c => ?_) (fun c => ?_)
  · have h := zit h c
    refine z_aload_n (i := 0) dX8_factor_177 rfl rfl rfl ?_
    refine z_iload_n (i := 2) dX8_factor_178 rfl rfl rfl ?_
    refine z_iconst (v := (-1 : Int32)) dX8_factor_179 (by decide) rfl ?_
    refine z_icmp_eq (pt := 187) dX8_factor_180 (by decide) rfl (fun c => ?_) (fun c => ?_)
    · have h := zit h c
      refine z_iconst (v := (0 : Int32)) dX8_factor_187 (by decide) rfl ?_
      refine z_callV k_X8_passes m_X8_355 (zRec_of i_164) rfl h rfl (Nat.le_of_ble_eq_true rfl) dX8_factor_188 zy200 rfl ?_
      rintro v s1 ⟨b2, rfl, hRs1, h⟩
      show zt l g (d + 1) M_X8_factor 191 [.ref 164, zJ, .int x2, .int x3] [.int (zb b2)] s1 _
      refine z_ifb_ne (pt := 196) dX8_factor_191 (by decide) rfl (fun c => ?_) (fun c => ?_)
      · have h := zit h c
        refine z_aload_n (i := 0) dX8_factor_196 rfl rfl rfl ?_
        refine z_sipush (v := (10000 : Int32)) dX8_factor_197 (by decide) rfl ?_
        refine z_iload_n (i := 2) dX8_factor_200 rfl rfl rfl ?_
        refine z_iadd dX8_factor_201 rfl ?_
        refine z_callV k_X8_mark m_X8_362 (zRec_of i_164) rfl h rfl (Nat.le_of_ble_eq_true rfl) dX8_factor_202 zy200 rfl ?_
        rintro v s3 ⟨rfl, hRs3, h⟩
        show zt l g (d + 1) M_X8_factor 205 [.ref 164, zJ, .int x2, .int x3] [] s3 _
        refine z_iconst (v := (1 : Int32)) dX8_factor_205 (by decide) rfl ?_
        exact z_ret (some (.int (zb true))) (Or.inr (Or.inl ⟨_, _, rfl, rfl, zb_nar _, dX8_factor_206⟩)) zN200 ⟨_, rfl, h⟩
      · have h := zif h (by rw [c]; exact Bool.false_ne_true)
        refine z_iconst (v := (0 : Int32)) dX8_factor_194 (by decide) rfl ?_
        exact z_ret (some (.int (zb false))) (Or.inr (Or.inl ⟨_, _, rfl, rfl, zb_nar _, dX8_factor_195⟩)) zN200 ⟨_, rfl, h⟩
    · have h := zif h c
      refine z_iconst (v := (1 : Int32)) dX8_factor_183 (by decide) rfl ?_
      refine z_goto (pn := 188) dX8_factor_184 (by decide) ?_
      refine z_callV k_X8_passes m_X8_355 (zRec_of i_164) rfl h rfl (Nat.le_of_ble_eq_true rfl) dX8_factor_188 zy200 rfl ?_
      rintro v s4 ⟨b5, rfl, hRs4, h⟩
      show zt l g (d + 1) M_X8_factor 191 [.ref 164, zJ, .int x2, .int x3] [.int (zb b5)] s4 _
      refine z_ifb_ne (pt := 196) dX8_factor_191 (by decide) rfl (fun c => ?_) (fun c => ?_)
      · have h := zit h c
        refine z_aload_n (i := 0) dX8_factor_196 rfl rfl rfl ?_
        refine z_sipush (v := (10000 : Int32)) dX8_factor_197 (by decide) rfl ?_
        refine z_iload_n (i := 2) dX8_factor_200 rfl rfl rfl ?_
        refine z_iadd dX8_factor_201 rfl ?_
        refine z_callV k_X8_mark m_X8_362 (zRec_of i_164) rfl h rfl (Nat.le_of_ble_eq_true rfl) dX8_factor_202 zy200 rfl ?_
        rintro v s6 ⟨rfl, hRs6, h⟩
        show zt l g (d + 1) M_X8_factor 205 [.ref 164, zJ, .int x2, .int x3] [] s6 _
        refine z_iconst (v := (1 : Int32)) dX8_factor_205 (by decide) rfl ?_
        exact z_ret (some (.int (zb true))) (Or.inr (Or.inl ⟨_, _, rfl, rfl, zb_nar _, dX8_factor_206⟩)) zN200 ⟨_, rfl, h⟩
      · have h := zif h (by rw [c]; exact Bool.false_ne_true)
        refine z_iconst (v := (0 : Int32)) dX8_factor_194 (by decide) rfl ?_
        exact z_ret (some (.int (zb false))) (Or.inr (Or.inl ⟨_, _, rfl, rfl, zb_nar _, dX8_factor_195⟩)) zN200 ⟨_, rfl, h⟩
  · have h := zif h c
    refine z_aload_n (i := 0) dX8_factor_156 rfl rfl rfl ?_
    refine z_aload_n (i := 0) dX8_factor_157 rfl rfl rfl ?_
    refine z_getR (q := 263) f_X8_142 i_164 rfl (r_164_43 hR) (by decide) dX8_factor_158 rfl ?_
    refine z_iload_n (i := 3) dX8_factor_161 rfl rfl rfl ?_
    obtain ⟨a7, h⟩ := h
    have wa7 := vin a7
    refine z_aald (q := 2 + (9 + x3.toNatClampNeg)) (by decide) a_263 a7 (r_263 hR a7) (by omega) dX8_factor_162 rfl ?_
    refine z_callV k_X8_isWord m_X8_365 (zRec_of i_164) rfl h rfl (Nat.le_of_ble_eq_true rfl) dX8_factor_163 zy200 rfl ?_
    rintro v s8 ⟨b9, rfl, hRs8, h⟩
    show zt l g (d + 1) M_X8_factor 166 [.ref 164, zJ, .int x2, .int x3] [.int (zb b9)] s8 _
    refine z_ifb_eq (pt := 171) dX8_factor_166 (by decide) rfl (fun c => ?_) (fun c => ?_)
    · have h := zif h (by rw [c]; exact Bool.false_ne_true)
      refine z_iinc (v := x3 + (1 : Int32)) dX8_factor_171 rfl rfl (by decide) (zokd rfl) rfl ?_
      show zt l g (d + 1) M_X8_factor 174 [.ref 164, zJ, .int x2, .int (x3 + (1 : Int32))] [] s8 _
      refine z_goto (pn := 150) dX8_factor_174 (by decide) ?_
      exact h
    · have h := zit h c
      refine z_iload_n (i := 3) dX8_factor_169 rfl rfl rfl ?_
      refine z_istore_n (i := 2) dX8_factor_170 rfl (by decide) (zokd rfl) rfl ?_
      show zt l g (d + 1) M_X8_factor 171 [.ref 164, zJ, .int x3, .int x3] [] s8 _
      refine z_iinc (v := x3 + (1 : Int32)) dX8_factor_171 rfl rfl (by decide) (zokd rfl) rfl ?_
      show zt l g (d + 1) M_X8_factor 174 [.ref 164, zJ, .int x3, .int (x3 + (1 : Int32))] [] s8 _
      refine z_goto (pn := 150) dX8_factor_174 (by decide) ?_
      exact h
set_option maxHeartbeats 4000000 in
set_option maxRecDepth 100000 in
theorem t_X8_factor_78 {l : Launch} {g : zG} {d : Nat} {s : zS} (hR : zRok s) {x2 : Int32} {x3 : Int32} {K : Bool → zS → Prop} (h : (if (s.1 164 31) ≤ x3 then (if (9999 : Int32) < x2 then (zc l g d M_X8_passes [.ref 164, .int (0 : Int32)] s (zKz (fun b2 s1 => s1.2.2.1 = s.2.2.1 ∧ (if b2 = true then (zc l g d M_X8_mark [.ref 164, .int x2] s1 (zKv (fun s3 => s3.2.2.1 = s1.2.2.1 ∧ K true s3))) else K false s1)))) else (zc l g d M_X8_passes [.ref 164, .int (1 : Int32)] s (zKz (fun b5 s4 => s4.2.2.1 = s.2.2.1 ∧ (if b5 = true then (zc l g d M_X8_mark [.ref 164, .int x2] s4 (zKv (fun s6 => s6.2.2.1 = s4.2.2.1 ∧ K true s6))) else K false s4))))) else (if x2 ≤ (9999 : Int32) then (vp_in x3 400 ∧ (∀ v8 : Int32, v8 = (((10 : Int32) * x2) + (s.1 244 x3.toNatClampNeg)) - (48 : Int32) → zt l g (d + 1) M_X8_factor 78 [.ref 164, zJ, .int v8, .int (x3 + (1 : Int32))] [] s (zKz K))) else zt l g (d + 1) M_X8_factor 78 [.ref 164, zJ, .int x2, .int (x3 + (1 : Int32))] [] s (zKz K)))) : zt l g (d + 1) M_X8_factor 78 [.ref 164, zJ, .int x2, .int x3] [] s (zKz K) := by
  refine z_iload_n (i := 3) dX8_factor_78 rfl rfl rfl ?_
  refine z_aload_n (i := 0) dX8_factor_79 rfl rfl rfl ?_
  refine z_getI (x := s.1 164 31) rfl f_X8_329 i_164 rfl dX8_factor_80 rfl ?_
  refine z_icmp_ge (pt := 118) dX8_factor_83 (by decide) rfl (fun c => ?_) (fun c => ?_)
  · have h := zit h c
    refine z_aload_n (i := 0) dX8_factor_118 rfl rfl rfl ?_
    refine z_iload_n (i := 2) dX8_factor_119 rfl rfl rfl ?_
    refine z_sipush (v := (9999 : Int32)) dX8_factor_120 (by decide) rfl ?_
    refine z_icmp_gt (pt := 130) dX8_factor_123 (by decide) rfl (fun c => ?_) (fun c => ?_)
    · have h := zit h c
      refine z_iconst (v := (0 : Int32)) dX8_factor_130 (by decide) rfl ?_
      refine z_callV k_X8_passes m_X8_355 (zRec_of i_164) rfl h rfl (Nat.le_of_ble_eq_true rfl) dX8_factor_131 zy200 rfl ?_
      rintro v s1 ⟨b2, rfl, hRs1, h⟩
      show zt l g (d + 1) M_X8_factor 134 [.ref 164, zJ, .int x2, .int x3] [.int (zb b2)] s1 _
      refine z_ifb_ne (pt := 139) dX8_factor_134 (by decide) rfl (fun c => ?_) (fun c => ?_)
      · have h := zit h c
        refine z_aload_n (i := 0) dX8_factor_139 rfl rfl rfl ?_
        refine z_iload_n (i := 2) dX8_factor_140 rfl rfl rfl ?_
        refine z_callV k_X8_mark m_X8_362 (zRec_of i_164) rfl h rfl (Nat.le_of_ble_eq_true rfl) dX8_factor_141 zy200 rfl ?_
        rintro v s3 ⟨rfl, hRs3, h⟩
        show zt l g (d + 1) M_X8_factor 144 [.ref 164, zJ, .int x2, .int x3] [] s3 _
        refine z_iconst (v := (1 : Int32)) dX8_factor_144 (by decide) rfl ?_
        exact z_ret (some (.int (zb true))) (Or.inr (Or.inl ⟨_, _, rfl, rfl, zb_nar _, dX8_factor_145⟩)) zN200 ⟨_, rfl, h⟩
      · have h := zif h (by rw [c]; exact Bool.false_ne_true)
        refine z_iconst (v := (0 : Int32)) dX8_factor_137 (by decide) rfl ?_
        exact z_ret (some (.int (zb false))) (Or.inr (Or.inl ⟨_, _, rfl, rfl, zb_nar _, dX8_factor_138⟩)) zN200 ⟨_, rfl, h⟩
    · have h := zif h c
      refine z_iconst (v := (1 : Int32)) dX8_factor_126 (by decide) rfl ?_
      refine z_goto (pn := 131) dX8_factor_127 (by decide) ?_
      refine z_callV k_X8_passes m_X8_355 (zRec_of i_164) rfl h rfl (Nat.le_of_ble_eq_true rfl) dX8_factor_131 zy200 rfl ?_
      rintro v s4 ⟨b5, rfl, hRs4, h⟩
      show zt l g (d + 1) M_X8_factor 134 [.ref 164, zJ, .int x2, .int x3] [.int (zb b5)] s4 _
      refine z_ifb_ne (pt := 139) dX8_factor_134 (by decide) rfl (fun c => ?_) (fun c => ?_)
      · have h := zit h c
        refine z_aload_n (i := 0) dX8_factor_139 rfl rfl rfl ?_
        refine z_iload_n (i := 2) dX8_factor_140 rfl rfl rfl ?_
        refine z_callV k_X8_mark m_X8_362 (zRec_of i_164) rfl h rfl (Nat.le_of_ble_eq_true rfl) dX8_factor_141 zy200 rfl ?_
        rintro v s6 ⟨rfl, hRs6, h⟩
        show zt l g (d + 1) M_X8_factor 144 [.ref 164, zJ, .int x2, .int x3] [] s6 _
        refine z_iconst (v := (1 : Int32)) dX8_factor_144 (by decide) rfl ?_
        exact z_ret (some (.int (zb true))) (Or.inr (Or.inl ⟨_, _, rfl, rfl, zb_nar _, dX8_factor_145⟩)) zN200 ⟨_, rfl, h⟩
      · have h := zif h (by rw [c]; exact Bool.false_ne_true)
        refine z_iconst (v := (0 : Int32)) dX8_factor_137 (by decide) rfl ?_
        exact z_ret (some (.int (zb false))) (Or.inr (Or.inl ⟨_, _, rfl, rfl, zb_nar _, dX8_factor_138⟩)) zN200 ⟨_, rfl, h⟩
  · have h := zif h c
    refine z_iload_n (i := 2) dX8_factor_86 rfl rfl rfl ?_
    refine z_sipush (v := (9999 : Int32)) dX8_factor_87 (by decide) rfl ?_
    refine z_icmp_le (pt := 97) dX8_factor_90 (by decide) rfl (fun c => ?_) (fun c => ?_)
    · have h := zit h c
      refine z_bipush (v := (10 : Int32)) dX8_factor_97 (by decide) rfl ?_
      refine z_iload_n (i := 2) dX8_factor_99 rfl rfl rfl ?_
      refine z_imul dX8_factor_100 rfl ?_
      refine z_aload_n (i := 0) dX8_factor_101 rfl rfl rfl ?_
      refine z_getR (q := 244) f_X8_76 i_164 rfl (r_164_28 hR) (by decide) dX8_factor_102 rfl ?_
      refine z_iload_n (i := 3) dX8_factor_105 rfl rfl rfl ?_
      obtain ⟨a7, h⟩ := h
      have wa7 := vin a7
      refine z_bald (x := s.1 244 x3.toNatClampNeg) rfl a_244 a7 dX8_factor_106 rfl ?_
      refine z_iadd dX8_factor_107 rfl ?_
      refine z_bipush (v := (48 : Int32)) dX8_factor_108 (by decide) rfl ?_
      refine z_isub dX8_factor_110 rfl ?_
      refine z_istore_n (i := 2) dX8_factor_111 rfl (by decide) (zokd rfl) rfl ?_
      obtain ⟨v8, ev8⟩ : ∃ x : Int32, x = (((10 : Int32) * x2) + (s.1 244 x3.toNatClampNeg)) - (48 : Int32) := ⟨_, rfl⟩
      rw [← ev8]
      have h := h v8 ev8
      show zt l g (d + 1) M_X8_factor 112 [.ref 164, zJ, .int v8, .int x3] [] s _
      refine z_iinc (v := x3 + (1 : Int32)) dX8_factor_112 rfl rfl (by decide) (zokd rfl) rfl ?_
      show zt l g (d + 1) M_X8_factor 115 [.ref 164, zJ, .int v8, .int (x3 + (1 : Int32))] [] s _
      refine z_goto (pn := 78) dX8_factor_115 (by decide) ?_
      exact h
    · have h := zif h c
      refine z_iload_n (i := 2) dX8_factor_93 rfl rfl rfl ?_
      refine z_goto (pn := 111) dX8_factor_94 (by decide) ?_
      refine z_istore_n (i := 2) dX8_factor_111 rfl (by decide) (zokd rfl) rfl ?_
      show zt l g (d + 1) M_X8_factor 112 [.ref 164, zJ, .int x2, .int x3] [] s _
      refine z_iinc (v := x3 + (1 : Int32)) dX8_factor_112 rfl rfl (by decide) (zokd rfl) rfl ?_
      show zt l g (d + 1) M_X8_factor 115 [.ref 164, zJ, .int x2, .int (x3 + (1 : Int32))] [] s _
      refine z_goto (pn := 78) dX8_factor_115 (by decide) ?_
      exact h
theorem dX8_product_0 : decode cX8_product 0 = .ok (.aload_n 0, 1) := by decide +kernel
theorem dX8_product_1 : decode cX8_product 1 = .ok (.iload_n 1, 1) := by decide +kernel
theorem dX8_product_2 : decode cX8_product 2 = .ok (.invokevirtual 369, 3) := by decide +kernel
theorem dX8_product_5 : decode cX8_product 5 = .ok (.ifCond .ne 5, 3) := by decide +kernel
theorem dX8_product_8 : decode cX8_product 8 = .ok (.iconst 0, 1) := by decide +kernel
theorem dX8_product_9 : decode cX8_product 9 = .ok (.ireturn, 1) := by decide +kernel
theorem dX8_product_10 : decode cX8_product 10 = .ok (.aload_n 0, 1) := by decide +kernel
theorem dX8_product_11 : decode cX8_product 11 = .ok (.bipush 42, 2) := by decide +kernel
theorem dX8_product_13 : decode cX8_product 13 = .ok (.invokevirtual 352, 3) := by decide +kernel
theorem dX8_product_16 : decode cX8_product 16 = .ok (.ifCond .eq 27, 3) := by decide +kernel
theorem dX8_product_19 : decode cX8_product 19 = .ok (.aload_n 0, 1) := by decide +kernel
theorem dX8_product_20 : decode cX8_product 20 = .ok (.invokevirtual 341, 3) := by decide +kernel
theorem dX8_product_23 : decode cX8_product 23 = .ok (.aload_n 0, 1) := by decide +kernel
theorem dX8_product_24 : decode cX8_product 24 = .ok (.iload_n 1, 1) := by decide +kernel
theorem dX8_product_25 : decode cX8_product 25 = .ok (.invokevirtual 369, 3) := by decide +kernel
theorem dX8_product_28 : decode cX8_product 28 = .ok (.ifCond .ne 5, 3) := by decide +kernel
theorem dX8_product_31 : decode cX8_product 31 = .ok (.iconst 0, 1) := by decide +kernel
theorem dX8_product_32 : decode cX8_product 32 = .ok (.ireturn, 1) := by decide +kernel
theorem dX8_product_33 : decode cX8_product 33 = .ok (.aload_n 0, 1) := by decide +kernel
theorem dX8_product_34 : decode cX8_product 34 = .ok (.sipush 20003, 3) := by decide +kernel
theorem dX8_product_37 : decode cX8_product 37 = .ok (.invokevirtual 362, 3) := by decide +kernel
theorem dX8_product_40 : decode cX8_product 40 = .ok (.goto (-30), 3) := by decide +kernel
theorem dX8_product_43 : decode cX8_product 43 = .ok (.iconst 1, 1) := by decide +kernel
theorem dX8_product_44 : decode cX8_product 44 = .ok (.ireturn, 1) := by decide +kernel
set_option maxHeartbeats 4000000 in
set_option maxRecDepth 100000 in
theorem t_X8_product {l : Launch} {g : zG} {d : Nat} {s : zS} (hR : zRok s) {p0 : Int32} {K : Bool → zS → Prop} (h : (zc l g d M_X8_factor [.ref 164, .int p0] s (zKz (fun b2 s1 => s1.2.2.1 = s.2.2.1 ∧ (if b2 = true then zt l g (d + 1) M_X8_product 10 [.ref 164, .int p0] [] s1 (zKz K) else K false s1))))) : zc l g (d + 1) M_X8_product [.ref 164, .int p0] s (zKz K) := by
  refine zCall_of k_X8_product (Nat.le_of_ble_eq_true rfl) (Nat.le_refl _) (fun _ => ?_)
  show zt l g (d + 1) M_X8_product 0 [.ref 164, .int p0] [] s (zKz K)
  refine z_aload_n (i := 0) dX8_product_0 rfl rfl rfl ?_
  refine z_iload_n (i := 1) dX8_product_1 rfl rfl rfl ?_
  refine z_callV k_X8_factor m_X8_369 (zRec_of i_164) rfl h rfl (Nat.le_of_ble_eq_true rfl) dX8_product_2 zy200 rfl ?_
  rintro v s1 ⟨b2, rfl, hRs1, h⟩
  show zt l g (d + 1) M_X8_product 5 [.ref 164, .int p0] [.int (zb b2)] s1 _
  refine z_ifb_ne (pt := 10) dX8_product_5 (by decide) rfl (fun c => ?_) (fun c => ?_)
  · have h := zit h c
    exact h
  · have h := zif h (by rw [c]; exact Bool.false_ne_true)
    refine z_iconst (v := (0 : Int32)) dX8_product_8 (by decide) rfl ?_
    exact z_ret (some (.int (zb false))) (Or.inr (Or.inl ⟨_, _, rfl, rfl, zb_nar _, dX8_product_9⟩)) zN200 ⟨_, rfl, h⟩
set_option maxHeartbeats 4000000 in
set_option maxRecDepth 100000 in
theorem t_X8_product_10 {l : Launch} {g : zG} {d : Nat} {s : zS} (hR : zRok s) {x1 : Int32} {K : Bool → zS → Prop} (h : (zc l g d M_X8_isSign [.ref 164, .int (42 : Int32)] s (zKz (fun b2 s1 => s1.2.2.1 = s.2.2.1 ∧ (if b2 = true then (zc l g d M_X8_next [.ref 164] s1 (zKv (fun s3 => s3.2.2.1 = s1.2.2.1 ∧ (zc l g d M_X8_factor [.ref 164, .int x1] s3 (zKz (fun b5 s4 => s4.2.2.1 = s3.2.2.1 ∧ (if b5 = true then (zc l g d M_X8_mark [.ref 164, .int (20003 : Int32)] s4 (zKv (fun s6 => s6.2.2.1 = s4.2.2.1 ∧ zt l g (d + 1) M_X8_product 10 [.ref 164, .int x1] [] s6 (zKz K)))) else K false s4))))))) else K true s1))))) : zt l g (d + 1) M_X8_product 10 [.ref 164, .int x1] [] s (zKz K) := by
  refine z_aload_n (i := 0) dX8_product_10 rfl rfl rfl ?_
  refine z_bipush (v := (42 : Int32)) dX8_product_11 (by decide) rfl ?_
  refine z_callV k_X8_isSign m_X8_352 (zRec_of i_164) rfl h rfl (Nat.le_of_ble_eq_true rfl) dX8_product_13 zy200 rfl ?_
  rintro v s1 ⟨b2, rfl, hRs1, h⟩
  show zt l g (d + 1) M_X8_product 16 [.ref 164, .int x1] [.int (zb b2)] s1 _
  refine z_ifb_eq (pt := 43) dX8_product_16 (by decide) rfl (fun c => ?_) (fun c => ?_)
  · have h := zif h (by rw [c]; exact Bool.false_ne_true)
    refine z_iconst (v := (1 : Int32)) dX8_product_43 (by decide) rfl ?_
    exact z_ret (some (.int (zb true))) (Or.inr (Or.inl ⟨_, _, rfl, rfl, zb_nar _, dX8_product_44⟩)) zN200 ⟨_, rfl, h⟩
  · have h := zit h c
    refine z_aload_n (i := 0) dX8_product_19 rfl rfl rfl ?_
    refine z_callV k_X8_next m_X8_341 (zRec_of i_164) rfl h rfl (Nat.le_of_ble_eq_true rfl) dX8_product_20 zy200 rfl ?_
    rintro v s3 ⟨rfl, hRs3, h⟩
    show zt l g (d + 1) M_X8_product 23 [.ref 164, .int x1] [] s3 _
    refine z_aload_n (i := 0) dX8_product_23 rfl rfl rfl ?_
    refine z_iload_n (i := 1) dX8_product_24 rfl rfl rfl ?_
    refine z_callV k_X8_factor m_X8_369 (zRec_of i_164) rfl h rfl (Nat.le_of_ble_eq_true rfl) dX8_product_25 zy200 rfl ?_
    rintro v s4 ⟨b5, rfl, hRs4, h⟩
    show zt l g (d + 1) M_X8_product 28 [.ref 164, .int x1] [.int (zb b5)] s4 _
    refine z_ifb_ne (pt := 33) dX8_product_28 (by decide) rfl (fun c => ?_) (fun c => ?_)
    · have h := zit h c
      refine z_aload_n (i := 0) dX8_product_33 rfl rfl rfl ?_
      refine z_sipush (v := (20003 : Int32)) dX8_product_34 (by decide) rfl ?_
      refine z_callV k_X8_mark m_X8_362 (zRec_of i_164) rfl h rfl (Nat.le_of_ble_eq_true rfl) dX8_product_37 zy200 rfl ?_
      rintro v s6 ⟨rfl, hRs6, h⟩
      show zt l g (d + 1) M_X8_product 40 [.ref 164, .int x1] [] s6 _
      refine z_goto (pn := 10) dX8_product_40 (by decide) ?_
      exact h
    · have h := zif h (by rw [c]; exact Bool.false_ne_true)
      refine z_iconst (v := (0 : Int32)) dX8_product_31 (by decide) rfl ?_
      exact z_ret (some (.int (zb false))) (Or.inr (Or.inl ⟨_, _, rfl, rfl, zb_nar _, dX8_product_32⟩)) zN200 ⟨_, rfl, h⟩
theorem dX8_sum_0 : decode cX8_sum 0 = .ok (.aload_n 0, 1) := by decide +kernel
theorem dX8_sum_1 : decode cX8_sum 1 = .ok (.iload_n 1, 1) := by decide +kernel
theorem dX8_sum_2 : decode cX8_sum 2 = .ok (.invokevirtual 372, 3) := by decide +kernel
theorem dX8_sum_5 : decode cX8_sum 5 = .ok (.ifCond .ne 5, 3) := by decide +kernel
theorem dX8_sum_8 : decode cX8_sum 8 = .ok (.iconst 0, 1) := by decide +kernel
theorem dX8_sum_9 : decode cX8_sum 9 = .ok (.ireturn, 1) := by decide +kernel
theorem dX8_sum_10 : decode cX8_sum 10 = .ok (.aload_n 0, 1) := by decide +kernel
theorem dX8_sum_11 : decode cX8_sum 11 = .ok (.bipush 43, 2) := by decide +kernel
theorem dX8_sum_13 : decode cX8_sum 13 = .ok (.invokevirtual 352, 3) := by decide +kernel
theorem dX8_sum_16 : decode cX8_sum 16 = .ok (.ifCond .ne 12, 3) := by decide +kernel
theorem dX8_sum_19 : decode cX8_sum 19 = .ok (.aload_n 0, 1) := by decide +kernel
theorem dX8_sum_20 : decode cX8_sum 20 = .ok (.bipush 45, 2) := by decide +kernel
theorem dX8_sum_22 : decode cX8_sum 22 = .ok (.invokevirtual 352, 3) := by decide +kernel
theorem dX8_sum_25 : decode cX8_sum 25 = .ok (.ifCond .eq 44, 3) := by decide +kernel
theorem dX8_sum_28 : decode cX8_sum 28 = .ok (.aload_n 0, 1) := by decide +kernel
theorem dX8_sum_29 : decode cX8_sum 29 = .ok (.bipush 43, 2) := by decide +kernel
theorem dX8_sum_31 : decode cX8_sum 31 = .ok (.invokevirtual 352, 3) := by decide +kernel
theorem dX8_sum_34 : decode cX8_sum 34 = .ok (.ifCond .eq 9, 3) := by decide +kernel
theorem dX8_sum_37 : decode cX8_sum 37 = .ok (.sipush 20001, 3) := by decide +kernel
theorem dX8_sum_40 : decode cX8_sum 40 = .ok (.goto 6, 3) := by decide +kernel
theorem dX8_sum_43 : decode cX8_sum 43 = .ok (.sipush 20002, 3) := by decide +kernel
theorem dX8_sum_46 : decode cX8_sum 46 = .ok (.istore_n 2, 1) := by decide +kernel
theorem dX8_sum_47 : decode cX8_sum 47 = .ok (.aload_n 0, 1) := by decide +kernel
theorem dX8_sum_48 : decode cX8_sum 48 = .ok (.invokevirtual 341, 3) := by decide +kernel
theorem dX8_sum_51 : decode cX8_sum 51 = .ok (.aload_n 0, 1) := by decide +kernel
theorem dX8_sum_52 : decode cX8_sum 52 = .ok (.iload_n 1, 1) := by decide +kernel
theorem dX8_sum_53 : decode cX8_sum 53 = .ok (.invokevirtual 372, 3) := by decide +kernel
theorem dX8_sum_56 : decode cX8_sum 56 = .ok (.ifCond .ne 5, 3) := by decide +kernel
theorem dX8_sum_59 : decode cX8_sum 59 = .ok (.iconst 0, 1) := by decide +kernel
theorem dX8_sum_60 : decode cX8_sum 60 = .ok (.ireturn, 1) := by decide +kernel
theorem dX8_sum_61 : decode cX8_sum 61 = .ok (.aload_n 0, 1) := by decide +kernel
theorem dX8_sum_62 : decode cX8_sum 62 = .ok (.iload_n 2, 1) := by decide +kernel
theorem dX8_sum_63 : decode cX8_sum 63 = .ok (.invokevirtual 362, 3) := by decide +kernel
theorem dX8_sum_66 : decode cX8_sum 66 = .ok (.goto (-56), 3) := by decide +kernel
theorem dX8_sum_69 : decode cX8_sum 69 = .ok (.iconst 1, 1) := by decide +kernel
theorem dX8_sum_70 : decode cX8_sum 70 = .ok (.ireturn, 1) := by decide +kernel
set_option maxHeartbeats 4000000 in
set_option maxRecDepth 100000 in
theorem t_X8_sum {l : Launch} {g : zG} {d : Nat} {s : zS} (hR : zRok s) {p0 : Int32} {K : Bool → zS → Prop} (h : (zc l g d M_X8_product [.ref 164, .int p0] s (zKz (fun b2 s1 => s1.2.2.1 = s.2.2.1 ∧ (if b2 = true then zt l g (d + 1) M_X8_sum 10 [.ref 164, .int p0, zJ] [] s1 (zKz K) else K false s1))))) : zc l g (d + 1) M_X8_sum [.ref 164, .int p0] s (zKz K) := by
  refine zCall_of k_X8_sum (Nat.le_of_ble_eq_true rfl) (Nat.le_refl _) (fun _ => ?_)
  show zt l g (d + 1) M_X8_sum 0 [.ref 164, .int p0, zJ] [] s (zKz K)
  refine z_aload_n (i := 0) dX8_sum_0 rfl rfl rfl ?_
  refine z_iload_n (i := 1) dX8_sum_1 rfl rfl rfl ?_
  refine z_callV k_X8_product m_X8_372 (zRec_of i_164) rfl h rfl (Nat.le_of_ble_eq_true rfl) dX8_sum_2 zy200 rfl ?_
  rintro v s1 ⟨b2, rfl, hRs1, h⟩
  show zt l g (d + 1) M_X8_sum 5 [.ref 164, .int p0, zJ] [.int (zb b2)] s1 _
  refine z_ifb_ne (pt := 10) dX8_sum_5 (by decide) rfl (fun c => ?_) (fun c => ?_)
  · have h := zit h c
    exact h
  · have h := zif h (by rw [c]; exact Bool.false_ne_true)
    refine z_iconst (v := (0 : Int32)) dX8_sum_8 (by decide) rfl ?_
    exact z_ret (some (.int (zb false))) (Or.inr (Or.inl ⟨_, _, rfl, rfl, zb_nar _, dX8_sum_9⟩)) zN200 ⟨_, rfl, h⟩
set_option maxHeartbeats 4000000 in
set_option maxRecDepth 100000 in
theorem t_X8_sum_10 {l : Launch} {g : zG} {d : Nat} {s : zS} (hR : zRok s) {x1 : Int32} {K : Bool → zS → Prop} (h : (zc l g d M_X8_isSign [.ref 164, .int (43 : Int32)] s (zKz (fun b2 s1 => s1.2.2.1 = s.2.2.1 ∧ (if b2 = true then (zc l g d M_X8_isSign [.ref 164, .int (43 : Int32)] s1 (zKz (fun b4 s3 => s3.2.2.1 = s1.2.2.1 ∧ (if b4 = true then (zc l g d M_X8_next [.ref 164] s3 (zKv (fun s9 => s9.2.2.1 = s3.2.2.1 ∧ (zc l g d M_X8_product [.ref 164, .int x1] s9 (zKz (fun b11 s10 => s10.2.2.1 = s9.2.2.1 ∧ (if b11 = true then (zc l g d M_X8_mark [.ref 164, .int (20001 : Int32)] s10 (zKv (fun s12 => s12.2.2.1 = s10.2.2.1 ∧ zt l g (d + 1) M_X8_sum 10 [.ref 164, .int x1, zJ] [] s12 (zKz K)))) else K false s10))))))) else (zc l g d M_X8_next [.ref 164] s3 (zKv (fun s5 => s5.2.2.1 = s3.2.2.1 ∧ (zc l g d M_X8_product [.ref 164, .int x1] s5 (zKz (fun b7 s6 => s6.2.2.1 = s5.2.2.1 ∧ (if b7 = true then (zc l g d M_X8_mark [.ref 164, .int (20002 : Int32)] s6 (zKv (fun s8 => s8.2.2.1 = s6.2.2.1 ∧ zt l g (d + 1) M_X8_sum 10 [.ref 164, .int x1, zJ] [] s8 (zKz K)))) else K false s6))))))))))) else (zc l g d M_X8_isSign [.ref 164, .int (45 : Int32)] s1 (zKz (fun b14 s13 => s13.2.2.1 = s1.2.2.1 ∧ (if b14 = true then (zc l g d M_X8_isSign [.ref 164, .int (43 : Int32)] s13 (zKz (fun b16 s15 => s15.2.2.1 = s13.2.2.1 ∧ (if b16 = true then (zc l g d M_X8_next [.ref 164] s15 (zKv (fun s21 => s21.2.2.1 = s15.2.2.1 ∧ (zc l g d M_X8_product [.ref 164, .int x1] s21 (zKz (fun b23 s22 => s22.2.2.1 = s21.2.2.1 ∧ (if b23 = true then (zc l g d M_X8_mark [.ref 164, .int (20001 : Int32)] s22 (zKv (fun s24 => s24.2.2.1 = s22.2.2.1 ∧ zt l g (d + 1) M_X8_sum 10 [.ref 164, .int x1, zJ] [] s24 (zKz K)))) else K false s22))))))) else (zc l g d M_X8_next [.ref 164] s15 (zKv (fun s17 => s17.2.2.1 = s15.2.2.1 ∧ (zc l g d M_X8_product [.ref 164, .int x1] s17 (zKz (fun b19 s18 => s18.2.2.1 = s17.2.2.1 ∧ (if b19 = true then (zc l g d M_X8_mark [.ref 164, .int (20002 : Int32)] s18 (zKv (fun s20 => s20.2.2.1 = s18.2.2.1 ∧ zt l g (d + 1) M_X8_sum 10 [.ref 164, .int x1, zJ] [] s20 (zKz K)))) else K false s18))))))))))) else K true s13))))))))) : zt l g (d + 1) M_X8_sum 10 [.ref 164, .int x1, zJ] [] s (zKz K) := by
  refine z_aload_n (i := 0) dX8_sum_10 rfl rfl rfl ?_
  refine z_bipush (v := (43 : Int32)) dX8_sum_11 (by decide) rfl ?_
  refine z_callV k_X8_isSign m_X8_352 (zRec_of i_164) rfl h rfl (Nat.le_of_ble_eq_true rfl) dX8_sum_13 zy200 rfl ?_
  rintro v s1 ⟨b2, rfl, hRs1, h⟩
  show zt l g (d + 1) M_X8_sum 16 [.ref 164, .int x1, zJ] [.int (zb b2)] s1 _
  refine z_ifb_ne (pt := 28) dX8_sum_16 (by decide) rfl (fun c => ?_) (fun c => ?_)
  · have h := zit h c
    refine z_aload_n (i := 0) dX8_sum_28 rfl rfl rfl ?_
    refine z_bipush (v := (43 : Int32)) dX8_sum_29 (by decide) rfl ?_
    refine z_callV k_X8_isSign m_X8_352 (zRec_of i_164) rfl h rfl (Nat.le_of_ble_eq_true rfl) dX8_sum_31 zy200 rfl ?_
    rintro v s3 ⟨b4, rfl, hRs3, h⟩
    show zt l g (d + 1) M_X8_sum 34 [.ref 164, .int x1, zJ] [.int (zb b4)] s3 _
    refine z_ifb_eq (pt := 43) dX8_sum_34 (by decide) rfl (fun c => ?_) (fun c => ?_)
    · have h := zif h (by rw [c]; exact Bool.false_ne_true)
      refine z_sipush (v := (20002 : Int32)) dX8_sum_43 (by decide) rfl ?_
      refine z_istore_n (i := 2) dX8_sum_46 rfl (by decide) (zokd rfl) rfl ?_
      show zt l g (d + 1) M_X8_sum 47 [.ref 164, .int x1, .int (20002 : Int32)] [] s3 _
      refine z_aload_n (i := 0) dX8_sum_47 rfl rfl rfl ?_
      refine z_callV k_X8_next m_X8_341 (zRec_of i_164) rfl h rfl (Nat.le_of_ble_eq_true rfl) dX8_sum_48 zy200 rfl ?_
      rintro v s5 ⟨rfl, hRs5, h⟩
      show zt l g (d + 1) M_X8_sum 51 [.ref 164, .int x1, .int (20002 : Int32)] [] s5 _
      refine z_aload_n (i := 0) dX8_sum_51 rfl rfl rfl ?_
      refine z_iload_n (i := 1) dX8_sum_52 rfl rfl rfl ?_
      refine z_callV k_X8_product m_X8_372 (zRec_of i_164) rfl h rfl (Nat.le_of_ble_eq_true rfl) dX8_sum_53 zy200 rfl ?_
      rintro v s6 ⟨b7, rfl, hRs6, h⟩
      show zt l g (d + 1) M_X8_sum 56 [.ref 164, .int x1, .int (20002 : Int32)] [.int (zb b7)] s6 _
      refine z_ifb_ne (pt := 61) dX8_sum_56 (by decide) rfl (fun c => ?_) (fun c => ?_)
      · have h := zit h c
        refine z_aload_n (i := 0) dX8_sum_61 rfl rfl rfl ?_
        refine z_iload_n (i := 2) dX8_sum_62 rfl rfl rfl ?_
        refine z_callV k_X8_mark m_X8_362 (zRec_of i_164) rfl h rfl (Nat.le_of_ble_eq_true rfl) dX8_sum_63 zy200 rfl ?_
        rintro v s8 ⟨rfl, hRs8, h⟩
        show zt l g (d + 1) M_X8_sum 66 [.ref 164, .int x1, .int (20002 : Int32)] [] s8 _
        refine z_goto (pn := 10) dX8_sum_66 (by decide) ?_
        refine z_wk (ls' := [.ref 164, .int x1, zJ]) ⟨Or.inr rfl, Or.inr rfl, Or.inl rfl, trivial⟩ ?_
        exact h
      · have h := zif h (by rw [c]; exact Bool.false_ne_true)
        refine z_iconst (v := (0 : Int32)) dX8_sum_59 (by decide) rfl ?_
        exact z_ret (some (.int (zb false))) (Or.inr (Or.inl ⟨_, _, rfl, rfl, zb_nar _, dX8_sum_60⟩)) zN200 ⟨_, rfl, h⟩
    · have h := zit h c
      refine z_sipush (v := (20001 : Int32)) dX8_sum_37 (by decide) rfl ?_
      refine z_goto (pn := 46) dX8_sum_40 (by decide) ?_
      refine z_istore_n (i := 2) dX8_sum_46 rfl (by decide) (zokd rfl) rfl ?_
      show zt l g (d + 1) M_X8_sum 47 [.ref 164, .int x1, .int (20001 : Int32)] [] s3 _
      refine z_aload_n (i := 0) dX8_sum_47 rfl rfl rfl ?_
      refine z_callV k_X8_next m_X8_341 (zRec_of i_164) rfl h rfl (Nat.le_of_ble_eq_true rfl) dX8_sum_48 zy200 rfl ?_
      rintro v s9 ⟨rfl, hRs9, h⟩
      show zt l g (d + 1) M_X8_sum 51 [.ref 164, .int x1, .int (20001 : Int32)] [] s9 _
      refine z_aload_n (i := 0) dX8_sum_51 rfl rfl rfl ?_
      refine z_iload_n (i := 1) dX8_sum_52 rfl rfl rfl ?_
      refine z_callV k_X8_product m_X8_372 (zRec_of i_164) rfl h rfl (Nat.le_of_ble_eq_true rfl) dX8_sum_53 zy200 rfl ?_
      rintro v s10 ⟨b11, rfl, hRs10, h⟩
      show zt l g (d + 1) M_X8_sum 56 [.ref 164, .int x1, .int (20001 : Int32)] [.int (zb b11)] s10 _
      refine z_ifb_ne (pt := 61) dX8_sum_56 (by decide) rfl (fun c => ?_) (fun c => ?_)
      · have h := zit h c
        refine z_aload_n (i := 0) dX8_sum_61 rfl rfl rfl ?_
        refine z_iload_n (i := 2) dX8_sum_62 rfl rfl rfl ?_
        refine z_callV k_X8_mark m_X8_362 (zRec_of i_164) rfl h rfl (Nat.le_of_ble_eq_true rfl) dX8_sum_63 zy200 rfl ?_
        rintro v s12 ⟨rfl, hRs12, h⟩
        show zt l g (d + 1) M_X8_sum 66 [.ref 164, .int x1, .int (20001 : Int32)] [] s12 _
        refine z_goto (pn := 10) dX8_sum_66 (by decide) ?_
        refine z_wk (ls' := [.ref 164, .int x1, zJ]) ⟨Or.inr rfl, Or.inr rfl, Or.inl rfl, trivial⟩ ?_
        exact h
      · have h := zif h (by rw [c]; exact Bool.false_ne_true)
        refine z_iconst (v := (0 : Int32)) dX8_sum_59 (by decide) rfl ?_
        exact z_ret (some (.int (zb false))) (Or.inr (Or.inl ⟨_, _, rfl, rfl, zb_nar _, dX8_sum_60⟩)) zN200 ⟨_, rfl, h⟩
  · have h := zif h (by rw [c]; exact Bool.false_ne_true)
    refine z_aload_n (i := 0) dX8_sum_19 rfl rfl rfl ?_
    refine z_bipush (v := (45 : Int32)) dX8_sum_20 (by decide) rfl ?_
    refine z_callV k_X8_isSign m_X8_352 (zRec_of i_164) rfl h rfl (Nat.le_of_ble_eq_true rfl) dX8_sum_22 zy200 rfl ?_
    rintro v s13 ⟨b14, rfl, hRs13, h⟩
    show zt l g (d + 1) M_X8_sum 25 [.ref 164, .int x1, zJ] [.int (zb b14)] s13 _
    refine z_ifb_eq (pt := 69) dX8_sum_25 (by decide) rfl (fun c => ?_) (fun c => ?_)
    · have h := zif h (by rw [c]; exact Bool.false_ne_true)
      refine z_iconst (v := (1 : Int32)) dX8_sum_69 (by decide) rfl ?_
      exact z_ret (some (.int (zb true))) (Or.inr (Or.inl ⟨_, _, rfl, rfl, zb_nar _, dX8_sum_70⟩)) zN200 ⟨_, rfl, h⟩
    · have h := zit h c
      refine z_aload_n (i := 0) dX8_sum_28 rfl rfl rfl ?_
      refine z_bipush (v := (43 : Int32)) dX8_sum_29 (by decide) rfl ?_
      refine z_callV k_X8_isSign m_X8_352 (zRec_of i_164) rfl h rfl (Nat.le_of_ble_eq_true rfl) dX8_sum_31 zy200 rfl ?_
      rintro v s15 ⟨b16, rfl, hRs15, h⟩
      show zt l g (d + 1) M_X8_sum 34 [.ref 164, .int x1, zJ] [.int (zb b16)] s15 _
      refine z_ifb_eq (pt := 43) dX8_sum_34 (by decide) rfl (fun c => ?_) (fun c => ?_)
      · have h := zif h (by rw [c]; exact Bool.false_ne_true)
        refine z_sipush (v := (20002 : Int32)) dX8_sum_43 (by decide) rfl ?_
        refine z_istore_n (i := 2) dX8_sum_46 rfl (by decide) (zokd rfl) rfl ?_
        show zt l g (d + 1) M_X8_sum 47 [.ref 164, .int x1, .int (20002 : Int32)] [] s15 _
        refine z_aload_n (i := 0) dX8_sum_47 rfl rfl rfl ?_
        refine z_callV k_X8_next m_X8_341 (zRec_of i_164) rfl h rfl (Nat.le_of_ble_eq_true rfl) dX8_sum_48 zy200 rfl ?_
        rintro v s17 ⟨rfl, hRs17, h⟩
        show zt l g (d + 1) M_X8_sum 51 [.ref 164, .int x1, .int (20002 : Int32)] [] s17 _
        refine z_aload_n (i := 0) dX8_sum_51 rfl rfl rfl ?_
        refine z_iload_n (i := 1) dX8_sum_52 rfl rfl rfl ?_
        refine z_callV k_X8_product m_X8_372 (zRec_of i_164) rfl h rfl (Nat.le_of_ble_eq_true rfl) dX8_sum_53 zy200 rfl ?_
        rintro v s18 ⟨b19, rfl, hRs18, h⟩
        show zt l g (d + 1) M_X8_sum 56 [.ref 164, .int x1, .int (20002 : Int32)] [.int (zb b19)] s18 _
        refine z_ifb_ne (pt := 61) dX8_sum_56 (by decide) rfl (fun c => ?_) (fun c => ?_)
        · have h := zit h c
          refine z_aload_n (i := 0) dX8_sum_61 rfl rfl rfl ?_
          refine z_iload_n (i := 2) dX8_sum_62 rfl rfl rfl ?_
          refine z_callV k_X8_mark m_X8_362 (zRec_of i_164) rfl h rfl (Nat.le_of_ble_eq_true rfl) dX8_sum_63 zy200 rfl ?_
          rintro v s20 ⟨rfl, hRs20, h⟩
          show zt l g (d + 1) M_X8_sum 66 [.ref 164, .int x1, .int (20002 : Int32)] [] s20 _
          refine z_goto (pn := 10) dX8_sum_66 (by decide) ?_
          refine z_wk (ls' := [.ref 164, .int x1, zJ]) ⟨Or.inr rfl, Or.inr rfl, Or.inl rfl, trivial⟩ ?_
          exact h
        · have h := zif h (by rw [c]; exact Bool.false_ne_true)
          refine z_iconst (v := (0 : Int32)) dX8_sum_59 (by decide) rfl ?_
          exact z_ret (some (.int (zb false))) (Or.inr (Or.inl ⟨_, _, rfl, rfl, zb_nar _, dX8_sum_60⟩)) zN200 ⟨_, rfl, h⟩
      · have h := zit h c
        refine z_sipush (v := (20001 : Int32)) dX8_sum_37 (by decide) rfl ?_
        refine z_goto (pn := 46) dX8_sum_40 (by decide) ?_
        refine z_istore_n (i := 2) dX8_sum_46 rfl (by decide) (zokd rfl) rfl ?_
        show zt l g (d + 1) M_X8_sum 47 [.ref 164, .int x1, .int (20001 : Int32)] [] s15 _
        refine z_aload_n (i := 0) dX8_sum_47 rfl rfl rfl ?_
        refine z_callV k_X8_next m_X8_341 (zRec_of i_164) rfl h rfl (Nat.le_of_ble_eq_true rfl) dX8_sum_48 zy200 rfl ?_
        rintro v s21 ⟨rfl, hRs21, h⟩
        show zt l g (d + 1) M_X8_sum 51 [.ref 164, .int x1, .int (20001 : Int32)] [] s21 _
        refine z_aload_n (i := 0) dX8_sum_51 rfl rfl rfl ?_
        refine z_iload_n (i := 1) dX8_sum_52 rfl rfl rfl ?_
        refine z_callV k_X8_product m_X8_372 (zRec_of i_164) rfl h rfl (Nat.le_of_ble_eq_true rfl) dX8_sum_53 zy200 rfl ?_
        rintro v s22 ⟨b23, rfl, hRs22, h⟩
        show zt l g (d + 1) M_X8_sum 56 [.ref 164, .int x1, .int (20001 : Int32)] [.int (zb b23)] s22 _
        refine z_ifb_ne (pt := 61) dX8_sum_56 (by decide) rfl (fun c => ?_) (fun c => ?_)
        · have h := zit h c
          refine z_aload_n (i := 0) dX8_sum_61 rfl rfl rfl ?_
          refine z_iload_n (i := 2) dX8_sum_62 rfl rfl rfl ?_
          refine z_callV k_X8_mark m_X8_362 (zRec_of i_164) rfl h rfl (Nat.le_of_ble_eq_true rfl) dX8_sum_63 zy200 rfl ?_
          rintro v s24 ⟨rfl, hRs24, h⟩
          show zt l g (d + 1) M_X8_sum 66 [.ref 164, .int x1, .int (20001 : Int32)] [] s24 _
          refine z_goto (pn := 10) dX8_sum_66 (by decide) ?_
          refine z_wk (ls' := [.ref 164, .int x1, zJ]) ⟨Or.inr rfl, Or.inr rfl, Or.inl rfl, trivial⟩ ?_
          exact h
        · have h := zif h (by rw [c]; exact Bool.false_ne_true)
          refine z_iconst (v := (0 : Int32)) dX8_sum_59 (by decide) rfl ?_
          exact z_ret (some (.int (zb false))) (Or.inr (Or.inl ⟨_, _, rfl, rfl, zb_nar _, dX8_sum_60⟩)) zN200 ⟨_, rfl, h⟩
theorem dX8_compares_0 : decode cX8_compares 0 = .ok (.aload_n 0, 1) := by decide +kernel
theorem dX8_compares_1 : decode cX8_compares 1 = .ok (.iconst 0, 1) := by decide +kernel
theorem dX8_compares_2 : decode cX8_compares 2 = .ok (.invokevirtual 359, 3) := by decide +kernel
theorem dX8_compares_5 : decode cX8_compares 5 = .ok (.ifCond .ne 5, 3) := by decide +kernel
theorem dX8_compares_8 : decode cX8_compares 8 = .ok (.iconst 0, 1) := by decide +kernel
theorem dX8_compares_9 : decode cX8_compares 9 = .ok (.ireturn, 1) := by decide +kernel
theorem dX8_compares_10 : decode cX8_compares 10 = .ok (.aload_n 0, 1) := by decide +kernel
theorem dX8_compares_11 : decode cX8_compares 11 = .ok (.bipush 60, 2) := by decide +kernel
theorem dX8_compares_13 : decode cX8_compares 13 = .ok (.invokevirtual 352, 3) := by decide +kernel
theorem dX8_compares_16 : decode cX8_compares 16 = .ok (.ifCond .eq 9, 3) := by decide +kernel
theorem dX8_compares_19 : decode cX8_compares 19 = .ok (.sipush 20004, 3) := by decide +kernel
theorem dX8_compares_22 : decode cX8_compares 22 = .ok (.goto 6, 3) := by decide +kernel
theorem dX8_compares_25 : decode cX8_compares 25 = .ok (.sipush 20005, 3) := by decide +kernel
theorem dX8_compares_28 : decode cX8_compares 28 = .ok (.istore_n 1, 1) := by decide +kernel
theorem dX8_compares_29 : decode cX8_compares 29 = .ok (.aload_n 0, 1) := by decide +kernel
theorem dX8_compares_30 : decode cX8_compares 30 = .ok (.aload_n 0, 1) := by decide +kernel
theorem dX8_compares_31 : decode cX8_compares 31 = .ok (.bipush 60, 2) := by decide +kernel
theorem dX8_compares_33 : decode cX8_compares 33 = .ok (.invokevirtual 352, 3) := by decide +kernel
theorem dX8_compares_36 : decode cX8_compares 36 = .ok (.ifCond .ne 12, 3) := by decide +kernel
theorem dX8_compares_39 : decode cX8_compares 39 = .ok (.aload_n 0, 1) := by decide +kernel
theorem dX8_compares_40 : decode cX8_compares 40 = .ok (.bipush 61, 2) := by decide +kernel
theorem dX8_compares_42 : decode cX8_compares 42 = .ok (.invokevirtual 352, 3) := by decide +kernel
theorem dX8_compares_45 : decode cX8_compares 45 = .ok (.ifCond .eq 7, 3) := by decide +kernel
theorem dX8_compares_48 : decode cX8_compares 48 = .ok (.iconst 1, 1) := by decide +kernel
theorem dX8_compares_49 : decode cX8_compares 49 = .ok (.goto 4, 3) := by decide +kernel
theorem dX8_compares_52 : decode cX8_compares 52 = .ok (.iconst 0, 1) := by decide +kernel
theorem dX8_compares_53 : decode cX8_compares 53 = .ok (.invokevirtual 355, 3) := by decide +kernel
theorem dX8_compares_56 : decode cX8_compares 56 = .ok (.ifCond .eq 11, 3) := by decide +kernel
theorem dX8_compares_59 : decode cX8_compares 59 = .ok (.aload_n 0, 1) := by decide +kernel
theorem dX8_compares_60 : decode cX8_compares 60 = .ok (.iconst 0, 1) := by decide +kernel
theorem dX8_compares_61 : decode cX8_compares 61 = .ok (.invokevirtual 359, 3) := by decide +kernel
theorem dX8_compares_64 : decode cX8_compares 64 = .ok (.ifCond .ne 5, 3) := by decide +kernel
theorem dX8_compares_67 : decode cX8_compares 67 = .ok (.iconst 0, 1) := by decide +kernel
theorem dX8_compares_68 : decode cX8_compares 68 = .ok (.ireturn, 1) := by decide +kernel
theorem dX8_compares_69 : decode cX8_compares 69 = .ok (.aload_n 0, 1) := by decide +kernel
theorem dX8_compares_70 : decode cX8_compares 70 = .ok (.iload_n 1, 1) := by decide +kernel
theorem dX8_compares_71 : decode cX8_compares 71 = .ok (.invokevirtual 362, 3) := by decide +kernel
theorem dX8_compares_74 : decode cX8_compares 74 = .ok (.iconst 1, 1) := by decide +kernel
theorem dX8_compares_75 : decode cX8_compares 75 = .ok (.ireturn, 1) := by decide +kernel
set_option maxHeartbeats 4000000 in
set_option maxRecDepth 100000 in
theorem t_X8_compares {l : Launch} {g : zG} {d : Nat} {s : zS} (hR : zRok s)  {K : Bool → zS → Prop} (h : (zc l g d M_X8_sum [.ref 164, .int (0 : Int32)] s (zKz (fun b2 s1 => s1.2.2.1 = s.2.2.1 ∧ (if b2 = true then (zc l g d M_X8_isSign [.ref 164, .int (60 : Int32)] s1 (zKz (fun b4 s3 => s3.2.2.1 = s1.2.2.1 ∧ (if b4 = true then (zc l g d M_X8_isSign [.ref 164, .int (60 : Int32)] s3 (zKz (fun b25 s24 => s24.2.2.1 = s3.2.2.1 ∧ (if b25 = true then (zc l g d M_X8_passes [.ref 164, .int (1 : Int32)] s24 (zKz (fun b27 s26 => s26.2.2.1 = s24.2.2.1 ∧ (if b27 = true then (zc l g d M_X8_sum [.ref 164, .int (0 : Int32)] s26 (zKz (fun b29 s28 => s28.2.2.1 = s26.2.2.1 ∧ (if b29 = true then (zc l g d M_X8_mark [.ref 164, .int (20004 : Int32)] s28 (zKv (fun s30 => s30.2.2.1 = s28.2.2.1 ∧ K true s30))) else K false s28)))) else K false s26)))) else (zc l g d M_X8_isSign [.ref 164, .int (61 : Int32)] s24 (zKz (fun b32 s31 => s31.2.2.1 = s24.2.2.1 ∧ (if b32 = true then (zc l g d M_X8_passes [.ref 164, .int (1 : Int32)] s31 (zKz (fun b39 s38 => s38.2.2.1 = s31.2.2.1 ∧ (if b39 = true then (zc l g d M_X8_sum [.ref 164, .int (0 : Int32)] s38 (zKz (fun b41 s40 => s40.2.2.1 = s38.2.2.1 ∧ (if b41 = true then (zc l g d M_X8_mark [.ref 164, .int (20004 : Int32)] s40 (zKv (fun s42 => s42.2.2.1 = s40.2.2.1 ∧ K true s42))) else K false s40)))) else K false s38)))) else (zc l g d M_X8_passes [.ref 164, .int (0 : Int32)] s31 (zKz (fun b34 s33 => s33.2.2.1 = s31.2.2.1 ∧ (if b34 = true then (zc l g d M_X8_sum [.ref 164, .int (0 : Int32)] s33 (zKz (fun b36 s35 => s35.2.2.1 = s33.2.2.1 ∧ (if b36 = true then (zc l g d M_X8_mark [.ref 164, .int (20004 : Int32)] s35 (zKv (fun s37 => s37.2.2.1 = s35.2.2.1 ∧ K true s37))) else K false s35)))) else K false s33)))))))))))) else (zc l g d M_X8_isSign [.ref 164, .int (60 : Int32)] s3 (zKz (fun b6 s5 => s5.2.2.1 = s3.2.2.1 ∧ (if b6 = true then (zc l g d M_X8_passes [.ref 164, .int (1 : Int32)] s5 (zKz (fun b8 s7 => s7.2.2.1 = s5.2.2.1 ∧ (if b8 = true then (zc l g d M_X8_sum [.ref 164, .int (0 : Int32)] s7 (zKz (fun b10 s9 => s9.2.2.1 = s7.2.2.1 ∧ (if b10 = true then (zc l g d M_X8_mark [.ref 164, .int (20005 : Int32)] s9 (zKv (fun s11 => s11.2.2.1 = s9.2.2.1 ∧ K true s11))) else K false s9)))) else K false s7)))) else (zc l g d M_X8_isSign [.ref 164, .int (61 : Int32)] s5 (zKz (fun b13 s12 => s12.2.2.1 = s5.2.2.1 ∧ (if b13 = true then (zc l g d M_X8_passes [.ref 164, .int (1 : Int32)] s12 (zKz (fun b20 s19 => s19.2.2.1 = s12.2.2.1 ∧ (if b20 = true then (zc l g d M_X8_sum [.ref 164, .int (0 : Int32)] s19 (zKz (fun b22 s21 => s21.2.2.1 = s19.2.2.1 ∧ (if b22 = true then (zc l g d M_X8_mark [.ref 164, .int (20005 : Int32)] s21 (zKv (fun s23 => s23.2.2.1 = s21.2.2.1 ∧ K true s23))) else K false s21)))) else K false s19)))) else (zc l g d M_X8_passes [.ref 164, .int (0 : Int32)] s12 (zKz (fun b15 s14 => s14.2.2.1 = s12.2.2.1 ∧ (if b15 = true then (zc l g d M_X8_sum [.ref 164, .int (0 : Int32)] s14 (zKz (fun b17 s16 => s16.2.2.1 = s14.2.2.1 ∧ (if b17 = true then (zc l g d M_X8_mark [.ref 164, .int (20005 : Int32)] s16 (zKv (fun s18 => s18.2.2.1 = s16.2.2.1 ∧ K true s18))) else K false s16)))) else K false s14)))))))))))))))) else K false s1))))) : zc l g (d + 1) M_X8_compares [.ref 164] s (zKz K) := by
  refine zCall_of k_X8_compares (Nat.le_of_ble_eq_true rfl) (Nat.le_refl _) (fun _ => ?_)
  show zt l g (d + 1) M_X8_compares 0 [.ref 164, zJ] [] s (zKz K)
  refine z_aload_n (i := 0) dX8_compares_0 rfl rfl rfl ?_
  refine z_iconst (v := (0 : Int32)) dX8_compares_1 (by decide) rfl ?_
  refine z_callV k_X8_sum m_X8_359 (zRec_of i_164) rfl h rfl (Nat.le_of_ble_eq_true rfl) dX8_compares_2 zy200 rfl ?_
  rintro v s1 ⟨b2, rfl, hRs1, h⟩
  show zt l g (d + 1) M_X8_compares 5 [.ref 164, zJ] [.int (zb b2)] s1 _
  refine z_ifb_ne (pt := 10) dX8_compares_5 (by decide) rfl (fun c => ?_) (fun c => ?_)
  · have h := zit h c
    refine z_aload_n (i := 0) dX8_compares_10 rfl rfl rfl ?_
    refine z_bipush (v := (60 : Int32)) dX8_compares_11 (by decide) rfl ?_
    refine z_callV k_X8_isSign m_X8_352 (zRec_of i_164) rfl h rfl (Nat.le_of_ble_eq_true rfl) dX8_compares_13 zy200 rfl ?_
    rintro v s3 ⟨b4, rfl, hRs3, h⟩
    show zt l g (d + 1) M_X8_compares 16 [.ref 164, zJ] [.int (zb b4)] s3 _
    refine z_ifb_eq (pt := 25) dX8_compares_16 (by decide) rfl (fun c => ?_) (fun c => ?_)
    · have h := zif h (by rw [c]; exact Bool.false_ne_true)
      refine z_sipush (v := (20005 : Int32)) dX8_compares_25 (by decide) rfl ?_
      refine z_istore_n (i := 1) dX8_compares_28 rfl (by decide) (zokd rfl) rfl ?_
      show zt l g (d + 1) M_X8_compares 29 [.ref 164, .int (20005 : Int32)] [] s3 _
      refine z_aload_n (i := 0) dX8_compares_29 rfl rfl rfl ?_
      refine z_aload_n (i := 0) dX8_compares_30 rfl rfl rfl ?_
      refine z_bipush (v := (60 : Int32)) dX8_compares_31 (by decide) rfl ?_
      refine z_callV k_X8_isSign m_X8_352 (zRec_of i_164) rfl h rfl (Nat.le_of_ble_eq_true rfl) dX8_compares_33 zy200 rfl ?_
      rintro v s5 ⟨b6, rfl, hRs5, h⟩
      show zt l g (d + 1) M_X8_compares 36 [.ref 164, .int (20005 : Int32)] [.int (zb b6), .ref 164] s5 _
      refine z_ifb_ne (pt := 48) dX8_compares_36 (by decide) rfl (fun c => ?_) (fun c => ?_)
      · have h := zit h c
        refine z_iconst (v := (1 : Int32)) dX8_compares_48 (by decide) rfl ?_
        refine z_goto (pn := 53) dX8_compares_49 (by decide) ?_
        refine z_callV k_X8_passes m_X8_355 (zRec_of i_164) rfl h rfl (Nat.le_of_ble_eq_true rfl) dX8_compares_53 zy200 rfl ?_
        rintro v s7 ⟨b8, rfl, hRs7, h⟩
        show zt l g (d + 1) M_X8_compares 56 [.ref 164, .int (20005 : Int32)] [.int (zb b8)] s7 _
        refine z_ifb_eq (pt := 67) dX8_compares_56 (by decide) rfl (fun c => ?_) (fun c => ?_)
        · have h := zif h (by rw [c]; exact Bool.false_ne_true)
          refine z_iconst (v := (0 : Int32)) dX8_compares_67 (by decide) rfl ?_
          exact z_ret (some (.int (zb false))) (Or.inr (Or.inl ⟨_, _, rfl, rfl, zb_nar _, dX8_compares_68⟩)) zN200 ⟨_, rfl, h⟩
        · have h := zit h c
          refine z_aload_n (i := 0) dX8_compares_59 rfl rfl rfl ?_
          refine z_iconst (v := (0 : Int32)) dX8_compares_60 (by decide) rfl ?_
          refine z_callV k_X8_sum m_X8_359 (zRec_of i_164) rfl h rfl (Nat.le_of_ble_eq_true rfl) dX8_compares_61 zy200 rfl ?_
          rintro v s9 ⟨b10, rfl, hRs9, h⟩
          show zt l g (d + 1) M_X8_compares 64 [.ref 164, .int (20005 : Int32)] [.int (zb b10)] s9 _
          refine z_ifb_ne (pt := 69) dX8_compares_64 (by decide) rfl (fun c => ?_) (fun c => ?_)
          · have h := zit h c
            refine z_aload_n (i := 0) dX8_compares_69 rfl rfl rfl ?_
            refine z_iload_n (i := 1) dX8_compares_70 rfl rfl rfl ?_
            refine z_callV k_X8_mark m_X8_362 (zRec_of i_164) rfl h rfl (Nat.le_of_ble_eq_true rfl) dX8_compares_71 zy200 rfl ?_
            rintro v s11 ⟨rfl, hRs11, h⟩
            show zt l g (d + 1) M_X8_compares 74 [.ref 164, .int (20005 : Int32)] [] s11 _
            refine z_iconst (v := (1 : Int32)) dX8_compares_74 (by decide) rfl ?_
            exact z_ret (some (.int (zb true))) (Or.inr (Or.inl ⟨_, _, rfl, rfl, zb_nar _, dX8_compares_75⟩)) zN200 ⟨_, rfl, h⟩
          · have h := zif h (by rw [c]; exact Bool.false_ne_true)
            refine z_iconst (v := (0 : Int32)) dX8_compares_67 (by decide) rfl ?_
            exact z_ret (some (.int (zb false))) (Or.inr (Or.inl ⟨_, _, rfl, rfl, zb_nar _, dX8_compares_68⟩)) zN200 ⟨_, rfl, h⟩
      · have h := zif h (by rw [c]; exact Bool.false_ne_true)
        refine z_aload_n (i := 0) dX8_compares_39 rfl rfl rfl ?_
        refine z_bipush (v := (61 : Int32)) dX8_compares_40 (by decide) rfl ?_
        refine z_callV k_X8_isSign m_X8_352 (zRec_of i_164) rfl h rfl (Nat.le_of_ble_eq_true rfl) dX8_compares_42 zy200 rfl ?_
        rintro v s12 ⟨b13, rfl, hRs12, h⟩
        show zt l g (d + 1) M_X8_compares 45 [.ref 164, .int (20005 : Int32)] [.int (zb b13), .ref 164] s12 _
        refine z_ifb_eq (pt := 52) dX8_compares_45 (by decide) rfl (fun c => ?_) (fun c => ?_)
        · have h := zif h (by rw [c]; exact Bool.false_ne_true)
          refine z_iconst (v := (0 : Int32)) dX8_compares_52 (by decide) rfl ?_
          refine z_callV k_X8_passes m_X8_355 (zRec_of i_164) rfl h rfl (Nat.le_of_ble_eq_true rfl) dX8_compares_53 zy200 rfl ?_
          rintro v s14 ⟨b15, rfl, hRs14, h⟩
          show zt l g (d + 1) M_X8_compares 56 [.ref 164, .int (20005 : Int32)] [.int (zb b15)] s14 _
          refine z_ifb_eq (pt := 67) dX8_compares_56 (by decide) rfl (fun c => ?_) (fun c => ?_)
          · have h := zif h (by rw [c]; exact Bool.false_ne_true)
            refine z_iconst (v := (0 : Int32)) dX8_compares_67 (by decide) rfl ?_
            exact z_ret (some (.int (zb false))) (Or.inr (Or.inl ⟨_, _, rfl, rfl, zb_nar _, dX8_compares_68⟩)) zN200 ⟨_, rfl, h⟩
          · have h := zit h c
            refine z_aload_n (i := 0) dX8_compares_59 rfl rfl rfl ?_
            refine z_iconst (v := (0 : Int32)) dX8_compares_60 (by decide) rfl ?_
            refine z_callV k_X8_sum m_X8_359 (zRec_of i_164) rfl h rfl (Nat.le_of_ble_eq_true rfl) dX8_compares_61 zy200 rfl ?_
            rintro v s16 ⟨b17, rfl, hRs16, h⟩
            show zt l g (d + 1) M_X8_compares 64 [.ref 164, .int (20005 : Int32)] [.int (zb b17)] s16 _
            refine z_ifb_ne (pt := 69) dX8_compares_64 (by decide) rfl (fun c => ?_) (fun c => ?_)
            · have h := zit h c
              refine z_aload_n (i := 0) dX8_compares_69 rfl rfl rfl ?_
              refine z_iload_n (i := 1) dX8_compares_70 rfl rfl rfl ?_
              refine z_callV k_X8_mark m_X8_362 (zRec_of i_164) rfl h rfl (Nat.le_of_ble_eq_true rfl) dX8_compares_71 zy200 rfl ?_
              rintro v s18 ⟨rfl, hRs18, h⟩
              show zt l g (d + 1) M_X8_compares 74 [.ref 164, .int (20005 : Int32)] [] s18 _
              refine z_iconst (v := (1 : Int32)) dX8_compares_74 (by decide) rfl ?_
              exact z_ret (some (.int (zb true))) (Or.inr (Or.inl ⟨_, _, rfl, rfl, zb_nar _, dX8_compares_75⟩)) zN200 ⟨_, rfl, h⟩
            · have h := zif h (by rw [c]; exact Bool.false_ne_true)
              refine z_iconst (v := (0 : Int32)) dX8_compares_67 (by decide) rfl ?_
              exact z_ret (some (.int (zb false))) (Or.inr (Or.inl ⟨_, _, rfl, rfl, zb_nar _, dX8_compares_68⟩)) zN200 ⟨_, rfl, h⟩
        · have h := zit h c
          refine z_iconst (v := (1 : Int32)) dX8_compares_48 (by decide) rfl ?_
          refine z_goto (pn := 53) dX8_compares_49 (by decide) ?_
          refine z_callV k_X8_passes m_X8_355 (zRec_of i_164) rfl h rfl (Nat.le_of_ble_eq_true rfl) dX8_compares_53 zy200 rfl ?_
          rintro v s19 ⟨b20, rfl, hRs19, h⟩
          show zt l g (d + 1) M_X8_compares 56 [.ref 164, .int (20005 : Int32)] [.int (zb b20)] s19 _
          refine z_ifb_eq (pt := 67) dX8_compares_56 (by decide) rfl (fun c => ?_) (fun c => ?_)
          · have h := zif h (by rw [c]; exact Bool.false_ne_true)
            refine z_iconst (v := (0 : Int32)) dX8_compares_67 (by decide) rfl ?_
            exact z_ret (some (.int (zb false))) (Or.inr (Or.inl ⟨_, _, rfl, rfl, zb_nar _, dX8_compares_68⟩)) zN200 ⟨_, rfl, h⟩
          · have h := zit h c
            refine z_aload_n (i := 0) dX8_compares_59 rfl rfl rfl ?_
            refine z_iconst (v := (0 : Int32)) dX8_compares_60 (by decide) rfl ?_
            refine z_callV k_X8_sum m_X8_359 (zRec_of i_164) rfl h rfl (Nat.le_of_ble_eq_true rfl) dX8_compares_61 zy200 rfl ?_
            rintro v s21 ⟨b22, rfl, hRs21, h⟩
            show zt l g (d + 1) M_X8_compares 64 [.ref 164, .int (20005 : Int32)] [.int (zb b22)] s21 _
            refine z_ifb_ne (pt := 69) dX8_compares_64 (by decide) rfl (fun c => ?_) (fun c => ?_)
            · have h := zit h c
              refine z_aload_n (i := 0) dX8_compares_69 rfl rfl rfl ?_
              refine z_iload_n (i := 1) dX8_compares_70 rfl rfl rfl ?_
              refine z_callV k_X8_mark m_X8_362 (zRec_of i_164) rfl h rfl (Nat.le_of_ble_eq_true rfl) dX8_compares_71 zy200 rfl ?_
              rintro v s23 ⟨rfl, hRs23, h⟩
              show zt l g (d + 1) M_X8_compares 74 [.ref 164, .int (20005 : Int32)] [] s23 _
              refine z_iconst (v := (1 : Int32)) dX8_compares_74 (by decide) rfl ?_
              exact z_ret (some (.int (zb true))) (Or.inr (Or.inl ⟨_, _, rfl, rfl, zb_nar _, dX8_compares_75⟩)) zN200 ⟨_, rfl, h⟩
            · have h := zif h (by rw [c]; exact Bool.false_ne_true)
              refine z_iconst (v := (0 : Int32)) dX8_compares_67 (by decide) rfl ?_
              exact z_ret (some (.int (zb false))) (Or.inr (Or.inl ⟨_, _, rfl, rfl, zb_nar _, dX8_compares_68⟩)) zN200 ⟨_, rfl, h⟩
    · have h := zit h c
      refine z_sipush (v := (20004 : Int32)) dX8_compares_19 (by decide) rfl ?_
      refine z_goto (pn := 28) dX8_compares_22 (by decide) ?_
      refine z_istore_n (i := 1) dX8_compares_28 rfl (by decide) (zokd rfl) rfl ?_
      show zt l g (d + 1) M_X8_compares 29 [.ref 164, .int (20004 : Int32)] [] s3 _
      refine z_aload_n (i := 0) dX8_compares_29 rfl rfl rfl ?_
      refine z_aload_n (i := 0) dX8_compares_30 rfl rfl rfl ?_
      refine z_bipush (v := (60 : Int32)) dX8_compares_31 (by decide) rfl ?_
      refine z_callV k_X8_isSign m_X8_352 (zRec_of i_164) rfl h rfl (Nat.le_of_ble_eq_true rfl) dX8_compares_33 zy200 rfl ?_
      rintro v s24 ⟨b25, rfl, hRs24, h⟩
      show zt l g (d + 1) M_X8_compares 36 [.ref 164, .int (20004 : Int32)] [.int (zb b25), .ref 164] s24 _
      refine z_ifb_ne (pt := 48) dX8_compares_36 (by decide) rfl (fun c => ?_) (fun c => ?_)
      · have h := zit h c
        refine z_iconst (v := (1 : Int32)) dX8_compares_48 (by decide) rfl ?_
        refine z_goto (pn := 53) dX8_compares_49 (by decide) ?_
        refine z_callV k_X8_passes m_X8_355 (zRec_of i_164) rfl h rfl (Nat.le_of_ble_eq_true rfl) dX8_compares_53 zy200 rfl ?_
        rintro v s26 ⟨b27, rfl, hRs26, h⟩
        show zt l g (d + 1) M_X8_compares 56 [.ref 164, .int (20004 : Int32)] [.int (zb b27)] s26 _
        refine z_ifb_eq (pt := 67) dX8_compares_56 (by decide) rfl (fun c => ?_) (fun c => ?_)
        · have h := zif h (by rw [c]; exact Bool.false_ne_true)
          refine z_iconst (v := (0 : Int32)) dX8_compares_67 (by decide) rfl ?_
          exact z_ret (some (.int (zb false))) (Or.inr (Or.inl ⟨_, _, rfl, rfl, zb_nar _, dX8_compares_68⟩)) zN200 ⟨_, rfl, h⟩
        · have h := zit h c
          refine z_aload_n (i := 0) dX8_compares_59 rfl rfl rfl ?_
          refine z_iconst (v := (0 : Int32)) dX8_compares_60 (by decide) rfl ?_
          refine z_callV k_X8_sum m_X8_359 (zRec_of i_164) rfl h rfl (Nat.le_of_ble_eq_true rfl) dX8_compares_61 zy200 rfl ?_
          rintro v s28 ⟨b29, rfl, hRs28, h⟩
          show zt l g (d + 1) M_X8_compares 64 [.ref 164, .int (20004 : Int32)] [.int (zb b29)] s28 _
          refine z_ifb_ne (pt := 69) dX8_compares_64 (by decide) rfl (fun c => ?_) (fun c => ?_)
          · have h := zit h c
            refine z_aload_n (i := 0) dX8_compares_69 rfl rfl rfl ?_
            refine z_iload_n (i := 1) dX8_compares_70 rfl rfl rfl ?_
            refine z_callV k_X8_mark m_X8_362 (zRec_of i_164) rfl h rfl (Nat.le_of_ble_eq_true rfl) dX8_compares_71 zy200 rfl ?_
            rintro v s30 ⟨rfl, hRs30, h⟩
            show zt l g (d + 1) M_X8_compares 74 [.ref 164, .int (20004 : Int32)] [] s30 _
            refine z_iconst (v := (1 : Int32)) dX8_compares_74 (by decide) rfl ?_
            exact z_ret (some (.int (zb true))) (Or.inr (Or.inl ⟨_, _, rfl, rfl, zb_nar _, dX8_compares_75⟩)) zN200 ⟨_, rfl, h⟩
          · have h := zif h (by rw [c]; exact Bool.false_ne_true)
            refine z_iconst (v := (0 : Int32)) dX8_compares_67 (by decide) rfl ?_
            exact z_ret (some (.int (zb false))) (Or.inr (Or.inl ⟨_, _, rfl, rfl, zb_nar _, dX8_compares_68⟩)) zN200 ⟨_, rfl, h⟩
      · have h := zif h (by rw [c]; exact Bool.false_ne_true)
        refine z_aload_n (i := 0) dX8_compares_39 rfl rfl rfl ?_
        refine z_bipush (v := (61 : Int32)) dX8_compares_40 (by decide) rfl ?_
        refine z_callV k_X8_isSign m_X8_352 (zRec_of i_164) rfl h rfl (Nat.le_of_ble_eq_true rfl) dX8_compares_42 zy200 rfl ?_
        rintro v s31 ⟨b32, rfl, hRs31, h⟩
        show zt l g (d + 1) M_X8_compares 45 [.ref 164, .int (20004 : Int32)] [.int (zb b32), .ref 164] s31 _
        refine z_ifb_eq (pt := 52) dX8_compares_45 (by decide) rfl (fun c => ?_) (fun c => ?_)
        · have h := zif h (by rw [c]; exact Bool.false_ne_true)
          refine z_iconst (v := (0 : Int32)) dX8_compares_52 (by decide) rfl ?_
          refine z_callV k_X8_passes m_X8_355 (zRec_of i_164) rfl h rfl (Nat.le_of_ble_eq_true rfl) dX8_compares_53 zy200 rfl ?_
          rintro v s33 ⟨b34, rfl, hRs33, h⟩
          show zt l g (d + 1) M_X8_compares 56 [.ref 164, .int (20004 : Int32)] [.int (zb b34)] s33 _
          refine z_ifb_eq (pt := 67) dX8_compares_56 (by decide) rfl (fun c => ?_) (fun c => ?_)
          · have h := zif h (by rw [c]; exact Bool.false_ne_true)
            refine z_iconst (v := (0 : Int32)) dX8_compares_67 (by decide) rfl ?_
            exact z_ret (some (.int (zb false))) (Or.inr (Or.inl ⟨_, _, rfl, rfl, zb_nar _, dX8_compares_68⟩)) zN200 ⟨_, rfl, h⟩
          · have h := zit h c
            refine z_aload_n (i := 0) dX8_compares_59 rfl rfl rfl ?_
            refine z_iconst (v := (0 : Int32)) dX8_compares_60 (by decide) rfl ?_
            refine z_callV k_X8_sum m_X8_359 (zRec_of i_164) rfl h rfl (Nat.le_of_ble_eq_true rfl) dX8_compares_61 zy200 rfl ?_
            rintro v s35 ⟨b36, rfl, hRs35, h⟩
            show zt l g (d + 1) M_X8_compares 64 [.ref 164, .int (20004 : Int32)] [.int (zb b36)] s35 _
            refine z_ifb_ne (pt := 69) dX8_compares_64 (by decide) rfl (fun c => ?_) (fun c => ?_)
            · have h := zit h c
              refine z_aload_n (i := 0) dX8_compares_69 rfl rfl rfl ?_
              refine z_iload_n (i := 1) dX8_compares_70 rfl rfl rfl ?_
              refine z_callV k_X8_mark m_X8_362 (zRec_of i_164) rfl h rfl (Nat.le_of_ble_eq_true rfl) dX8_compares_71 zy200 rfl ?_
              rintro v s37 ⟨rfl, hRs37, h⟩
              show zt l g (d + 1) M_X8_compares 74 [.ref 164, .int (20004 : Int32)] [] s37 _
              refine z_iconst (v := (1 : Int32)) dX8_compares_74 (by decide) rfl ?_
              exact z_ret (some (.int (zb true))) (Or.inr (Or.inl ⟨_, _, rfl, rfl, zb_nar _, dX8_compares_75⟩)) zN200 ⟨_, rfl, h⟩
            · have h := zif h (by rw [c]; exact Bool.false_ne_true)
              refine z_iconst (v := (0 : Int32)) dX8_compares_67 (by decide) rfl ?_
              exact z_ret (some (.int (zb false))) (Or.inr (Or.inl ⟨_, _, rfl, rfl, zb_nar _, dX8_compares_68⟩)) zN200 ⟨_, rfl, h⟩
        · have h := zit h c
          refine z_iconst (v := (1 : Int32)) dX8_compares_48 (by decide) rfl ?_
          refine z_goto (pn := 53) dX8_compares_49 (by decide) ?_
          refine z_callV k_X8_passes m_X8_355 (zRec_of i_164) rfl h rfl (Nat.le_of_ble_eq_true rfl) dX8_compares_53 zy200 rfl ?_
          rintro v s38 ⟨b39, rfl, hRs38, h⟩
          show zt l g (d + 1) M_X8_compares 56 [.ref 164, .int (20004 : Int32)] [.int (zb b39)] s38 _
          refine z_ifb_eq (pt := 67) dX8_compares_56 (by decide) rfl (fun c => ?_) (fun c => ?_)
          · have h := zif h (by rw [c]; exact Bool.false_ne_true)
            refine z_iconst (v := (0 : Int32)) dX8_compares_67 (by decide) rfl ?_
            exact z_ret (some (.int (zb false))) (Or.inr (Or.inl ⟨_, _, rfl, rfl, zb_nar _, dX8_compares_68⟩)) zN200 ⟨_, rfl, h⟩
          · have h := zit h c
            refine z_aload_n (i := 0) dX8_compares_59 rfl rfl rfl ?_
            refine z_iconst (v := (0 : Int32)) dX8_compares_60 (by decide) rfl ?_
            refine z_callV k_X8_sum m_X8_359 (zRec_of i_164) rfl h rfl (Nat.le_of_ble_eq_true rfl) dX8_compares_61 zy200 rfl ?_
            rintro v s40 ⟨b41, rfl, hRs40, h⟩
            show zt l g (d + 1) M_X8_compares 64 [.ref 164, .int (20004 : Int32)] [.int (zb b41)] s40 _
            refine z_ifb_ne (pt := 69) dX8_compares_64 (by decide) rfl (fun c => ?_) (fun c => ?_)
            · have h := zit h c
              refine z_aload_n (i := 0) dX8_compares_69 rfl rfl rfl ?_
              refine z_iload_n (i := 1) dX8_compares_70 rfl rfl rfl ?_
              refine z_callV k_X8_mark m_X8_362 (zRec_of i_164) rfl h rfl (Nat.le_of_ble_eq_true rfl) dX8_compares_71 zy200 rfl ?_
              rintro v s42 ⟨rfl, hRs42, h⟩
              show zt l g (d + 1) M_X8_compares 74 [.ref 164, .int (20004 : Int32)] [] s42 _
              refine z_iconst (v := (1 : Int32)) dX8_compares_74 (by decide) rfl ?_
              exact z_ret (some (.int (zb true))) (Or.inr (Or.inl ⟨_, _, rfl, rfl, zb_nar _, dX8_compares_75⟩)) zN200 ⟨_, rfl, h⟩
            · have h := zif h (by rw [c]; exact Bool.false_ne_true)
              refine z_iconst (v := (0 : Int32)) dX8_compares_67 (by decide) rfl ?_
              exact z_ret (some (.int (zb false))) (Or.inr (Or.inl ⟨_, _, rfl, rfl, zb_nar _, dX8_compares_68⟩)) zN200 ⟨_, rfl, h⟩
  · have h := zif h (by rw [c]; exact Bool.false_ne_true)
    refine z_iconst (v := (0 : Int32)) dX8_compares_8 (by decide) rfl ?_
    exact z_ret (some (.int (zb false))) (Or.inr (Or.inl ⟨_, _, rfl, rfl, zb_nar _, dX8_compares_9⟩)) zN200 ⟨_, rfl, h⟩
theorem dX8_holdsRead_0 : decode cX8_holdsRead 0 = .ok (.aload_n 0, 1) := by decide +kernel
theorem dX8_holdsRead_1 : decode cX8_holdsRead 1 = .ok (.invokevirtual 375, 3) := by decide +kernel
theorem dX8_holdsRead_4 : decode cX8_holdsRead 4 = .ok (.ifCond .ne 5, 3) := by decide +kernel
theorem dX8_holdsRead_7 : decode cX8_holdsRead 7 = .ok (.iconst 0, 1) := by decide +kernel
theorem dX8_holdsRead_8 : decode cX8_holdsRead 8 = .ok (.ireturn, 1) := by decide +kernel
theorem dX8_holdsRead_9 : decode cX8_holdsRead 9 = .ok (.aload_n 0, 1) := by decide +kernel
theorem dX8_holdsRead_10 : decode cX8_holdsRead 10 = .ok (.ldc_w 379, 3) := by decide +kernel
theorem dX8_holdsRead_13 : decode cX8_holdsRead 13 = .ok (.invokevirtual 365, 3) := by decide +kernel
theorem dX8_holdsRead_16 : decode cX8_holdsRead 16 = .ok (.ifCond .eq 26, 3) := by decide +kernel
theorem dX8_holdsRead_19 : decode cX8_holdsRead 19 = .ok (.aload_n 0, 1) := by decide +kernel
theorem dX8_holdsRead_20 : decode cX8_holdsRead 20 = .ok (.invokevirtual 341, 3) := by decide +kernel
theorem dX8_holdsRead_23 : decode cX8_holdsRead 23 = .ok (.aload_n 0, 1) := by decide +kernel
theorem dX8_holdsRead_24 : decode cX8_holdsRead 24 = .ok (.invokevirtual 375, 3) := by decide +kernel
theorem dX8_holdsRead_27 : decode cX8_holdsRead 27 = .ok (.ifCond .ne 5, 3) := by decide +kernel
theorem dX8_holdsRead_30 : decode cX8_holdsRead 30 = .ok (.iconst 0, 1) := by decide +kernel
theorem dX8_holdsRead_31 : decode cX8_holdsRead 31 = .ok (.ireturn, 1) := by decide +kernel
theorem dX8_holdsRead_32 : decode cX8_holdsRead 32 = .ok (.aload_n 0, 1) := by decide +kernel
theorem dX8_holdsRead_33 : decode cX8_holdsRead 33 = .ok (.sipush 20006, 3) := by decide +kernel
theorem dX8_holdsRead_36 : decode cX8_holdsRead 36 = .ok (.invokevirtual 362, 3) := by decide +kernel
theorem dX8_holdsRead_39 : decode cX8_holdsRead 39 = .ok (.goto (-30), 3) := by decide +kernel
theorem dX8_holdsRead_42 : decode cX8_holdsRead 42 = .ok (.iconst 1, 1) := by decide +kernel
theorem dX8_holdsRead_43 : decode cX8_holdsRead 43 = .ok (.ireturn, 1) := by decide +kernel
set_option maxHeartbeats 4000000 in
set_option maxRecDepth 100000 in
theorem t_X8_holdsRead {l : Launch} {g : zG} {d : Nat} {s : zS} (hR : zRok s)  {K : Bool → zS → Prop} (h : (zc l g d M_X8_compares [.ref 164] s (zKz (fun b2 s1 => s1.2.2.1 = s.2.2.1 ∧ (if b2 = true then zt l g (d + 1) M_X8_holdsRead 9 [.ref 164] [] s1 (zKz K) else K false s1))))) : zc l g (d + 1) M_X8_holdsRead [.ref 164] s (zKz K) := by
  refine zCall_of k_X8_holdsRead (Nat.le_of_ble_eq_true rfl) (Nat.le_refl _) (fun _ => ?_)
  show zt l g (d + 1) M_X8_holdsRead 0 [.ref 164] [] s (zKz K)
  refine z_aload_n (i := 0) dX8_holdsRead_0 rfl rfl rfl ?_
  refine z_callV k_X8_compares m_X8_375 (zRec_of i_164) rfl h rfl (Nat.le_of_ble_eq_true rfl) dX8_holdsRead_1 zy200 rfl ?_
  rintro v s1 ⟨b2, rfl, hRs1, h⟩
  show zt l g (d + 1) M_X8_holdsRead 4 [.ref 164] [.int (zb b2)] s1 _
  refine z_ifb_ne (pt := 9) dX8_holdsRead_4 (by decide) rfl (fun c => ?_) (fun c => ?_)
  · have h := zit h c
    exact h
  · have h := zif h (by rw [c]; exact Bool.false_ne_true)
    refine z_iconst (v := (0 : Int32)) dX8_holdsRead_7 (by decide) rfl ?_
    exact z_ret (some (.int (zb false))) (Or.inr (Or.inl ⟨_, _, rfl, rfl, zb_nar _, dX8_holdsRead_8⟩)) zN200 ⟨_, rfl, h⟩
set_option maxHeartbeats 4000000 in
set_option maxRecDepth 100000 in
theorem t_X8_holdsRead_9 {l : Launch} {g : zG} {d : Nat} {s : zS} (hR : zRok s)  {K : Bool → zS → Prop} (h : (zc l g d M_X8_isWord [.ref 164, .ref (2 + 19)] s (zKz (fun b2 s1 => s1.2.2.1 = s.2.2.1 ∧ (if b2 = true then (zc l g d M_X8_next [.ref 164] s1 (zKv (fun s3 => s3.2.2.1 = s1.2.2.1 ∧ (zc l g d M_X8_compares [.ref 164] s3 (zKz (fun b5 s4 => s4.2.2.1 = s3.2.2.1 ∧ (if b5 = true then (zc l g d M_X8_mark [.ref 164, .int (20006 : Int32)] s4 (zKv (fun s6 => s6.2.2.1 = s4.2.2.1 ∧ zt l g (d + 1) M_X8_holdsRead 9 [.ref 164] [] s6 (zKz K)))) else K false s4))))))) else K true s1))))) : zt l g (d + 1) M_X8_holdsRead 9 [.ref 164] [] s (zKz K) := by
  refine z_aload_n (i := 0) dX8_holdsRead_9 rfl rfl rfl ?_
  refine z_ldcSw (i := 19) (by decide) rfl rfl dX8_holdsRead_10 rfl ?_
  refine z_callV k_X8_isWord m_X8_365 (zRec_of i_164) rfl h rfl (Nat.le_of_ble_eq_true rfl) dX8_holdsRead_13 zy200 rfl ?_
  rintro v s1 ⟨b2, rfl, hRs1, h⟩
  show zt l g (d + 1) M_X8_holdsRead 16 [.ref 164] [.int (zb b2)] s1 _
  refine z_ifb_eq (pt := 42) dX8_holdsRead_16 (by decide) rfl (fun c => ?_) (fun c => ?_)
  · have h := zif h (by rw [c]; exact Bool.false_ne_true)
    refine z_iconst (v := (1 : Int32)) dX8_holdsRead_42 (by decide) rfl ?_
    exact z_ret (some (.int (zb true))) (Or.inr (Or.inl ⟨_, _, rfl, rfl, zb_nar _, dX8_holdsRead_43⟩)) zN200 ⟨_, rfl, h⟩
  · have h := zit h c
    refine z_aload_n (i := 0) dX8_holdsRead_19 rfl rfl rfl ?_
    refine z_callV k_X8_next m_X8_341 (zRec_of i_164) rfl h rfl (Nat.le_of_ble_eq_true rfl) dX8_holdsRead_20 zy200 rfl ?_
    rintro v s3 ⟨rfl, hRs3, h⟩
    show zt l g (d + 1) M_X8_holdsRead 23 [.ref 164] [] s3 _
    refine z_aload_n (i := 0) dX8_holdsRead_23 rfl rfl rfl ?_
    refine z_callV k_X8_compares m_X8_375 (zRec_of i_164) rfl h rfl (Nat.le_of_ble_eq_true rfl) dX8_holdsRead_24 zy200 rfl ?_
    rintro v s4 ⟨b5, rfl, hRs4, h⟩
    show zt l g (d + 1) M_X8_holdsRead 27 [.ref 164] [.int (zb b5)] s4 _
    refine z_ifb_ne (pt := 32) dX8_holdsRead_27 (by decide) rfl (fun c => ?_) (fun c => ?_)
    · have h := zit h c
      refine z_aload_n (i := 0) dX8_holdsRead_32 rfl rfl rfl ?_
      refine z_sipush (v := (20006 : Int32)) dX8_holdsRead_33 (by decide) rfl ?_
      refine z_callV k_X8_mark m_X8_362 (zRec_of i_164) rfl h rfl (Nat.le_of_ble_eq_true rfl) dX8_holdsRead_36 zy200 rfl ?_
      rintro v s6 ⟨rfl, hRs6, h⟩
      show zt l g (d + 1) M_X8_holdsRead 39 [.ref 164] [] s6 _
      refine z_goto (pn := 9) dX8_holdsRead_39 (by decide) ?_
      exact h
    · have h := zif h (by rw [c]; exact Bool.false_ne_true)
      refine z_iconst (v := (0 : Int32)) dX8_holdsRead_30 (by decide) rfl ?_
      exact z_ret (some (.int (zb false))) (Or.inr (Or.inl ⟨_, _, rfl, rfl, zb_nar _, dX8_holdsRead_31⟩)) zN200 ⟨_, rfl, h⟩
theorem dX8_begins_0 : decode cX8_begins 0 = .ok (.aload_n 0, 1) := by decide +kernel
theorem dX8_begins_1 : decode cX8_begins 1 = .ok (.getfield 83, 3) := by decide +kernel
theorem dX8_begins_4 : decode cX8_begins 4 = .ok (.iconst 1, 1) := by decide +kernel
theorem dX8_begins_5 : decode cX8_begins 5 = .ok (.aaload, 1) := by decide +kernel
theorem dX8_begins_6 : decode cX8_begins 6 = .ok (.iload_n 1, 1) := by decide +kernel
theorem dX8_begins_7 : decode cX8_begins 7 = .ok (.aload_n 0, 1) := by decide +kernel
theorem dX8_begins_8 : decode cX8_begins 8 = .ok (.getfield 95, 3) := by decide +kernel
theorem dX8_begins_11 : decode cX8_begins 11 = .ok (.iconst 1, 1) := by decide +kernel
theorem dX8_begins_12 : decode cX8_begins 12 = .ok (.iaload, 1) := by decide +kernel
theorem dX8_begins_13 : decode cX8_begins 13 = .ok (.iastore, 1) := by decide +kernel
theorem dX8_begins_14 : decode cX8_begins 14 = .ok (.return_, 1) := by decide +kernel
set_option maxHeartbeats 4000000 in
set_option maxRecDepth 100000 in
theorem t_X8_begins {l : Launch} {g : zG} {d : Nat} {s : zS} (hR : zRok s) {p0 : Int32} {K : zS → Prop} (h : (vp_in p0 13 ∧ K (zI s 250 p0.toNatClampNeg (s.1 258 1)))) : zc l g d M_X8_begins [.ref 164, .int p0] s (zKv K) := by
  refine zCall_of k_X8_begins (Nat.le_of_ble_eq_true rfl) (Nat.le_refl _) (fun _ => ?_)
  show zt l g d M_X8_begins 0 [.ref 164, .int p0] [] s (zKv K)
  refine z_aload_n (i := 0) dX8_begins_0 rfl rfl rfl ?_
  refine z_getR (q := 248) f_X8_83 i_164 rfl (r_164_34 hR) (by decide) dX8_begins_1 rfl ?_
  refine z_iconst (v := (1 : Int32)) dX8_begins_4 (by decide) rfl ?_
  refine z_aald (q := 250) (by decide) a_248 (by unfold vp_in; decide) (by have := hR.1 248 1 (by decide); exact this) (by decide) dX8_begins_5 rfl ?_
  refine z_iload_n (i := 1) dX8_begins_6 rfl rfl rfl ?_
  refine z_aload_n (i := 0) dX8_begins_7 rfl rfl rfl ?_
  refine z_getR (q := 258) f_X8_95 i_164 rfl (r_164_38 hR) (by decide) dX8_begins_8 rfl ?_
  refine z_iconst (v := (1 : Int32)) dX8_begins_11 (by decide) rfl ?_
  refine z_iald (x := s.1 258 1) rfl a_258 (by unfold vp_in; decide) dX8_begins_12 rfl ?_
  obtain ⟨a1, h⟩ := h
  have wa1 := vin a1
  refine z_iast a_250 a1 dX8_begins_13 rfl ?_
  show zt l g d M_X8_begins 14 [.ref 164, .int p0] [] (zI s 250 p0.toNatClampNeg (s.1 258 1)) _
  exact z_ret none (Or.inl ⟨rfl, rfl, dX8_begins_14⟩) zN200 ⟨rfl, h⟩
theorem dX8_ends_0 : decode cX8_ends 0 = .ok (.aload_n 0, 1) := by decide +kernel
theorem dX8_ends_1 : decode cX8_ends 1 = .ok (.getfield 86, 3) := by decide +kernel
theorem dX8_ends_4 : decode cX8_ends 4 = .ok (.iconst 1, 1) := by decide +kernel
theorem dX8_ends_5 : decode cX8_ends 5 = .ok (.aaload, 1) := by decide +kernel
theorem dX8_ends_6 : decode cX8_ends 6 = .ok (.iload_n 1, 1) := by decide +kernel
theorem dX8_ends_7 : decode cX8_ends 7 = .ok (.aload_n 0, 1) := by decide +kernel
theorem dX8_ends_8 : decode cX8_ends 8 = .ok (.getfield 95, 3) := by decide +kernel
theorem dX8_ends_11 : decode cX8_ends 11 = .ok (.iconst 1, 1) := by decide +kernel
theorem dX8_ends_12 : decode cX8_ends 12 = .ok (.iaload, 1) := by decide +kernel
theorem dX8_ends_13 : decode cX8_ends 13 = .ok (.aload_n 0, 1) := by decide +kernel
theorem dX8_ends_14 : decode cX8_ends 14 = .ok (.getfield 83, 3) := by decide +kernel
theorem dX8_ends_17 : decode cX8_ends 17 = .ok (.iconst 1, 1) := by decide +kernel
theorem dX8_ends_18 : decode cX8_ends 18 = .ok (.aaload, 1) := by decide +kernel
theorem dX8_ends_19 : decode cX8_ends 19 = .ok (.iload_n 1, 1) := by decide +kernel
theorem dX8_ends_20 : decode cX8_ends 20 = .ok (.iaload, 1) := by decide +kernel
theorem dX8_ends_21 : decode cX8_ends 21 = .ok (.isub, 1) := by decide +kernel
theorem dX8_ends_22 : decode cX8_ends 22 = .ok (.iastore, 1) := by decide +kernel
theorem dX8_ends_23 : decode cX8_ends 23 = .ok (.aload_n 0, 1) := by decide +kernel
theorem dX8_ends_24 : decode cX8_ends 24 = .ok (.aload_n 0, 1) := by decide +kernel
theorem dX8_ends_25 : decode cX8_ends 25 = .ok (.bipush 59, 2) := by decide +kernel
theorem dX8_ends_27 : decode cX8_ends 27 = .ok (.invokevirtual 352, 3) := by decide +kernel
theorem dX8_ends_30 : decode cX8_ends 30 = .ok (.invokevirtual 355, 3) := by decide +kernel
theorem dX8_ends_33 : decode cX8_ends 33 = .ok (.ireturn, 1) := by decide +kernel
set_option maxHeartbeats 4000000 in
set_option maxRecDepth 100000 in
theorem t_X8_ends {l : Launch} {g : zG} {d : Nat} {s : zS} (hR : zRok s) {p0 : Int32} {K : Bool → zS → Prop} (h : (vp_in p0 13 ∧ (vp_in p0 13 ∧ (zc l g d M_X8_isSign [.ref 164, .int (59 : Int32)] (zI s 253 p0.toNatClampNeg ((s.1 258 1) - (s.1 250 p0.toNatClampNeg))) (zKz (fun b4 s3 => s3.2.2.1 = s.2.2.1 ∧ (zc l g d M_X8_passes [.ref 164, .int (zb b4)] s3 (zKz (fun b6 s5 => s5.2.2.1 = s3.2.2.1 ∧ K b6 s5))))))))) : zc l g (d + 1) M_X8_ends [.ref 164, .int p0] s (zKz K) := by
  refine zCall_of k_X8_ends (Nat.le_of_ble_eq_true rfl) (Nat.le_refl _) (fun _ => ?_)
  show zt l g (d + 1) M_X8_ends 0 [.ref 164, .int p0] [] s (zKz K)
  refine z_aload_n (i := 0) dX8_ends_0 rfl rfl rfl ?_
  refine z_getR (q := 251) f_X8_86 i_164 rfl (r_164_35 hR) (by decide) dX8_ends_1 rfl ?_
  refine z_iconst (v := (1 : Int32)) dX8_ends_4 (by decide) rfl ?_
  refine z_aald (q := 253) (by decide) a_251 (by unfold vp_in; decide) (by have := hR.1 251 1 (by decide); exact this) (by decide) dX8_ends_5 rfl ?_
  refine z_iload_n (i := 1) dX8_ends_6 rfl rfl rfl ?_
  refine z_aload_n (i := 0) dX8_ends_7 rfl rfl rfl ?_
  refine z_getR (q := 258) f_X8_95 i_164 rfl (r_164_38 hR) (by decide) dX8_ends_8 rfl ?_
  refine z_iconst (v := (1 : Int32)) dX8_ends_11 (by decide) rfl ?_
  refine z_iald (x := s.1 258 1) rfl a_258 (by unfold vp_in; decide) dX8_ends_12 rfl ?_
  refine z_aload_n (i := 0) dX8_ends_13 rfl rfl rfl ?_
  refine z_getR (q := 248) f_X8_83 i_164 rfl (r_164_34 hR) (by decide) dX8_ends_14 rfl ?_
  refine z_iconst (v := (1 : Int32)) dX8_ends_17 (by decide) rfl ?_
  refine z_aald (q := 250) (by decide) a_248 (by unfold vp_in; decide) (by have := hR.1 248 1 (by decide); exact this) (by decide) dX8_ends_18 rfl ?_
  refine z_iload_n (i := 1) dX8_ends_19 rfl rfl rfl ?_
  obtain ⟨a1, h⟩ := h
  have wa1 := vin a1
  refine z_iald (x := s.1 250 p0.toNatClampNeg) rfl a_250 a1 dX8_ends_20 rfl ?_
  refine z_isub dX8_ends_21 rfl ?_
  obtain ⟨a2, h⟩ := h
  have wa2 := vin a2
  refine z_iast a_253 a2 dX8_ends_22 rfl ?_
  show zt l g (d + 1) M_X8_ends 23 [.ref 164, .int p0] [] (zI s 253 p0.toNatClampNeg ((s.1 258 1) - (s.1 250 p0.toNatClampNeg))) _
  refine z_aload_n (i := 0) dX8_ends_23 rfl rfl rfl ?_
  refine z_aload_n (i := 0) dX8_ends_24 rfl rfl rfl ?_
  refine z_bipush (v := (59 : Int32)) dX8_ends_25 (by decide) rfl ?_
  refine z_callV k_X8_isSign m_X8_352 (zRec_of i_164) rfl h rfl (Nat.le_of_ble_eq_true rfl) dX8_ends_27 zy200 rfl ?_
  rintro v s3 ⟨b4, rfl, hRs3, h⟩
  show zt l g (d + 1) M_X8_ends 30 [.ref 164, .int p0] [.int (zb b4), .ref 164] s3 _
  refine z_callV k_X8_passes m_X8_355 (zRec_of i_164) rfl h rfl (Nat.le_of_ble_eq_true rfl) dX8_ends_30 zy200 rfl ?_
  rintro v s5 ⟨b6, rfl, hRs5, h⟩
  show zt l g (d + 1) M_X8_ends 33 [.ref 164, .int p0] [.int (zb b6)] s5 _
  exact z_ret (some (.int (zb b6))) (Or.inr (Or.inl ⟨_, _, rfl, rfl, zb_nar _, dX8_ends_33⟩)) zN200 ⟨_, rfl, h⟩
theorem dX8_line_0 : decode cX8_line 0 = .ok (.aload_n 0, 1) := by decide +kernel
theorem dX8_line_1 : decode cX8_line 1 = .ok (.ldc_w 381, 3) := by decide +kernel
theorem dX8_line_4 : decode cX8_line 4 = .ok (.invokevirtual 365, 3) := by decide +kernel
theorem dX8_line_7 : decode cX8_line 7 = .ok (.ifCond .eq 62, 3) := by decide +kernel
theorem dX8_line_10 : decode cX8_line 10 = .ok (.aload_n 0, 1) := by decide +kernel
theorem dX8_line_11 : decode cX8_line 11 = .ok (.aload_n 0, 1) := by decide +kernel
theorem dX8_line_12 : decode cX8_line 12 = .ok (.getfield 98, 3) := by decide +kernel
theorem dX8_line_15 : decode cX8_line 15 = .ok (.iconst 1, 1) := by decide +kernel
theorem dX8_line_16 : decode cX8_line 16 = .ok (.baload, 1) := by decide +kernel
theorem dX8_line_17 : decode cX8_line 17 = .ok (.ifCond .ne 7, 3) := by decide +kernel
theorem dX8_line_20 : decode cX8_line 20 = .ok (.iconst 1, 1) := by decide +kernel
theorem dX8_line_21 : decode cX8_line 21 = .ok (.goto 4, 3) := by decide +kernel
theorem dX8_line_24 : decode cX8_line 24 = .ok (.iconst 0, 1) := by decide +kernel
theorem dX8_line_25 : decode cX8_line 25 = .ok (.invokevirtual 355, 3) := by decide +kernel
theorem dX8_line_28 : decode cX8_line 28 = .ok (.ifCond .ne 5, 3) := by decide +kernel
theorem dX8_line_31 : decode cX8_line 31 = .ok (.iconst 0, 1) := by decide +kernel
theorem dX8_line_32 : decode cX8_line 32 = .ok (.ireturn, 1) := by decide +kernel
theorem dX8_line_33 : decode cX8_line 33 = .ok (.aload_n 0, 1) := by decide +kernel
theorem dX8_line_34 : decode cX8_line 34 = .ok (.getfield 98, 3) := by decide +kernel
theorem dX8_line_37 : decode cX8_line 37 = .ok (.iconst 1, 1) := by decide +kernel
theorem dX8_line_38 : decode cX8_line 38 = .ok (.iconst 1, 1) := by decide +kernel
theorem dX8_line_39 : decode cX8_line 39 = .ok (.bastore, 1) := by decide +kernel
theorem dX8_line_40 : decode cX8_line 40 = .ok (.aload_n 0, 1) := by decide +kernel
theorem dX8_line_41 : decode cX8_line 41 = .ok (.bipush 12, 2) := by decide +kernel
theorem dX8_line_43 : decode cX8_line 43 = .ok (.invokevirtual 383, 3) := by decide +kernel
theorem dX8_line_46 : decode cX8_line 46 = .ok (.aload_n 0, 1) := by decide +kernel
theorem dX8_line_47 : decode cX8_line 47 = .ok (.iconst 0, 1) := by decide +kernel
theorem dX8_line_48 : decode cX8_line 48 = .ok (.invokevirtual 359, 3) := by decide +kernel
theorem dX8_line_51 : decode cX8_line 51 = .ok (.ifCond .eq 16, 3) := by decide +kernel
theorem dX8_line_54 : decode cX8_line 54 = .ok (.aload_n 0, 1) := by decide +kernel
theorem dX8_line_55 : decode cX8_line 55 = .ok (.bipush 12, 2) := by decide +kernel
theorem dX8_line_57 : decode cX8_line 57 = .ok (.invokevirtual 386, 3) := by decide +kernel
theorem dX8_line_60 : decode cX8_line 60 = .ok (.ifCond .eq 7, 3) := by decide +kernel
theorem dX8_line_63 : decode cX8_line 63 = .ok (.iconst 1, 1) := by decide +kernel
theorem dX8_line_64 : decode cX8_line 64 = .ok (.goto 4, 3) := by decide +kernel
theorem dX8_line_67 : decode cX8_line 67 = .ok (.iconst 0, 1) := by decide +kernel
theorem dX8_line_68 : decode cX8_line 68 = .ok (.ireturn, 1) := by decide +kernel
theorem dX8_line_69 : decode cX8_line 69 = .ok (.aload_n 0, 1) := by decide +kernel
theorem dX8_line_70 : decode cX8_line 70 = .ok (.getfield 92, 3) := by decide +kernel
theorem dX8_line_73 : decode cX8_line 73 = .ok (.iconst 1, 1) := by decide +kernel
theorem dX8_line_74 : decode cX8_line 74 = .ok (.iaload, 1) := by decide +kernel
theorem dX8_line_75 : decode cX8_line 75 = .ok (.istore_n 1, 1) := by decide +kernel
theorem dX8_line_76 : decode cX8_line 76 = .ok (.aload_n 0, 1) := by decide +kernel
theorem dX8_line_77 : decode cX8_line 77 = .ok (.aload_n 0, 1) := by decide +kernel
theorem dX8_line_78 : decode cX8_line 78 = .ok (.ldc_w 389, 3) := by decide +kernel
theorem dX8_line_81 : decode cX8_line 81 = .ok (.invokevirtual 365, 3) := by decide +kernel
theorem dX8_line_84 : decode cX8_line 84 = .ok (.ifCond .eq 13, 3) := by decide +kernel
theorem dX8_line_87 : decode cX8_line 87 = .ok (.iload_n 1, 1) := by decide +kernel
theorem dX8_line_88 : decode cX8_line 88 = .ok (.bipush 12, 2) := by decide +kernel
theorem dX8_line_90 : decode cX8_line 90 = .ok (.if_icmp .ge 7, 3) := by decide +kernel
theorem dX8_line_93 : decode cX8_line 93 = .ok (.iconst 1, 1) := by decide +kernel
theorem dX8_line_94 : decode cX8_line 94 = .ok (.goto 4, 3) := by decide +kernel
theorem dX8_line_97 : decode cX8_line 97 = .ok (.iconst 0, 1) := by decide +kernel
theorem dX8_line_98 : decode cX8_line 98 = .ok (.invokevirtual 355, 3) := by decide +kernel
theorem dX8_line_101 : decode cX8_line 101 = .ok (.ifCond .ne 5, 3) := by decide +kernel
theorem dX8_line_104 : decode cX8_line 104 = .ok (.iconst 0, 1) := by decide +kernel
theorem dX8_line_105 : decode cX8_line 105 = .ok (.ireturn, 1) := by decide +kernel
theorem dX8_line_106 : decode cX8_line 106 = .ok (.iconst (-1), 1) := by decide +kernel
theorem dX8_line_107 : decode cX8_line 107 = .ok (.istore_n 2, 1) := by decide +kernel
theorem dX8_line_108 : decode cX8_line 108 = .ok (.iconst 0, 1) := by decide +kernel
theorem dX8_line_109 : decode cX8_line 109 = .ok (.istore_n 3, 1) := by decide +kernel
theorem dX8_line_110 : decode cX8_line 110 = .ok (.iload_n 3, 1) := by decide +kernel
theorem dX8_line_111 : decode cX8_line 111 = .ok (.bipush 7, 2) := by decide +kernel
theorem dX8_line_113 : decode cX8_line 113 = .ok (.if_icmp .ge 24, 3) := by decide +kernel
theorem dX8_line_116 : decode cX8_line 116 = .ok (.aload_n 0, 1) := by decide +kernel
theorem dX8_line_117 : decode cX8_line 117 = .ok (.aload_n 0, 1) := by decide +kernel
theorem dX8_line_118 : decode cX8_line 118 = .ok (.getfield 124, 3) := by decide +kernel
theorem dX8_line_121 : decode cX8_line 121 = .ok (.iload_n 3, 1) := by decide +kernel
theorem dX8_line_122 : decode cX8_line 122 = .ok (.aaload, 1) := by decide +kernel
theorem dX8_line_123 : decode cX8_line 123 = .ok (.invokevirtual 365, 3) := by decide +kernel
theorem dX8_line_126 : decode cX8_line 126 = .ok (.ifCond .eq 5, 3) := by decide +kernel
theorem dX8_line_129 : decode cX8_line 129 = .ok (.iload_n 3, 1) := by decide +kernel
theorem dX8_line_130 : decode cX8_line 130 = .ok (.istore_n 2, 1) := by decide +kernel
theorem dX8_line_131 : decode cX8_line 131 = .ok (.iinc 3 1, 3) := by decide +kernel
theorem dX8_line_134 : decode cX8_line 134 = .ok (.goto (-24), 3) := by decide +kernel
theorem dX8_line_137 : decode cX8_line 137 = .ok (.aload_n 0, 1) := by decide +kernel
theorem dX8_line_138 : decode cX8_line 138 = .ok (.iload_n 2, 1) := by decide +kernel
theorem dX8_line_139 : decode cX8_line 139 = .ok (.iconst (-1), 1) := by decide +kernel
theorem dX8_line_140 : decode cX8_line 140 = .ok (.if_icmp .eq 7, 3) := by decide +kernel
theorem dX8_line_143 : decode cX8_line 143 = .ok (.iconst 1, 1) := by decide +kernel
theorem dX8_line_144 : decode cX8_line 144 = .ok (.goto 4, 3) := by decide +kernel
theorem dX8_line_147 : decode cX8_line 147 = .ok (.iconst 0, 1) := by decide +kernel
theorem dX8_line_148 : decode cX8_line 148 = .ok (.invokevirtual 355, 3) := by decide +kernel
theorem dX8_line_151 : decode cX8_line 151 = .ok (.ifCond .eq 17, 3) := by decide +kernel
theorem dX8_line_154 : decode cX8_line 154 = .ok (.aload_n 0, 1) := by decide +kernel
theorem dX8_line_155 : decode cX8_line 155 = .ok (.aload_n 0, 1) := by decide +kernel
theorem dX8_line_156 : decode cX8_line 156 = .ok (.ldc_w 391, 3) := by decide +kernel
theorem dX8_line_159 : decode cX8_line 159 = .ok (.invokevirtual 365, 3) := by decide +kernel
theorem dX8_line_162 : decode cX8_line 162 = .ok (.invokevirtual 355, 3) := by decide +kernel
theorem dX8_line_165 : decode cX8_line 165 = .ok (.ifCond .ne 5, 3) := by decide +kernel
theorem dX8_line_168 : decode cX8_line 168 = .ok (.iconst 0, 1) := by decide +kernel
theorem dX8_line_169 : decode cX8_line 169 = .ok (.ireturn, 1) := by decide +kernel
theorem dX8_line_170 : decode cX8_line 170 = .ok (.aload_n 0, 1) := by decide +kernel
theorem dX8_line_171 : decode cX8_line 171 = .ok (.getfield 89, 3) := by decide +kernel
theorem dX8_line_174 : decode cX8_line 174 = .ok (.iconst 1, 1) := by decide +kernel
theorem dX8_line_175 : decode cX8_line 175 = .ok (.aaload, 1) := by decide +kernel
theorem dX8_line_176 : decode cX8_line 176 = .ok (.iload_n 1, 1) := by decide +kernel
theorem dX8_line_177 : decode cX8_line 177 = .ok (.iload_n 2, 1) := by decide +kernel
theorem dX8_line_178 : decode cX8_line 178 = .ok (.iastore, 1) := by decide +kernel
theorem dX8_line_179 : decode cX8_line 179 = .ok (.aload_n 0, 1) := by decide +kernel
theorem dX8_line_180 : decode cX8_line 180 = .ok (.iload_n 1, 1) := by decide +kernel
theorem dX8_line_181 : decode cX8_line 181 = .ok (.invokevirtual 383, 3) := by decide +kernel
theorem dX8_line_184 : decode cX8_line 184 = .ok (.aload_n 0, 1) := by decide +kernel
theorem dX8_line_185 : decode cX8_line 185 = .ok (.getfield 92, 3) := by decide +kernel
theorem dX8_line_188 : decode cX8_line 188 = .ok (.iconst 1, 1) := by decide +kernel
theorem dX8_line_189 : decode cX8_line 189 = .ok (.dup2, 1) := by decide +kernel
theorem dX8_line_190 : decode cX8_line 190 = .ok (.iaload, 1) := by decide +kernel
theorem dX8_line_191 : decode cX8_line 191 = .ok (.iconst 1, 1) := by decide +kernel
theorem dX8_line_192 : decode cX8_line 192 = .ok (.iadd, 1) := by decide +kernel
theorem dX8_line_193 : decode cX8_line 193 = .ok (.iastore, 1) := by decide +kernel
theorem dX8_line_194 : decode cX8_line 194 = .ok (.aload_n 0, 1) := by decide +kernel
theorem dX8_line_195 : decode cX8_line 195 = .ok (.invokevirtual 393, 3) := by decide +kernel
theorem dX8_line_198 : decode cX8_line 198 = .ok (.ifCond .eq 15, 3) := by decide +kernel
theorem dX8_line_201 : decode cX8_line 201 = .ok (.aload_n 0, 1) := by decide +kernel
theorem dX8_line_202 : decode cX8_line 202 = .ok (.iload_n 1, 1) := by decide +kernel
theorem dX8_line_203 : decode cX8_line 203 = .ok (.invokevirtual 386, 3) := by decide +kernel
theorem dX8_line_206 : decode cX8_line 206 = .ok (.ifCond .eq 7, 3) := by decide +kernel
theorem dX8_line_209 : decode cX8_line 209 = .ok (.iconst 1, 1) := by decide +kernel
theorem dX8_line_210 : decode cX8_line 210 = .ok (.goto 4, 3) := by decide +kernel
theorem dX8_line_213 : decode cX8_line 213 = .ok (.iconst 0, 1) := by decide +kernel
theorem dX8_line_214 : decode cX8_line 214 = .ok (.ireturn, 1) := by decide +kernel
set_option maxHeartbeats 4000000 in
set_option maxRecDepth 100000 in
theorem t_X8_line {l : Launch} {g : zG} {d : Nat} {s : zS} (hR : zRok s)  {K : Bool → zS → Prop} (h : (zc l g d M_X8_isWord [.ref 164, .ref (2 + 16)] s (zKz (fun b2 s1 => s1.2.2.1 = s.2.2.1 ∧ (if b2 = true then (if (s1.1 259 1) = 0 then (zc l g d M_X8_passes [.ref 164, .int (1 : Int32)] s1 (zKz (fun b19 s18 => s18.2.2.1 = s1.2.2.1 ∧ (if b19 = true then (zc l g d M_X8_begins [.ref 164, .int (12 : Int32)] (zI s18 259 1 (1 : Int32)) (zKv (fun s20 => s20.2.2.1 = s18.2.2.1 ∧ (zc l g d M_X8_sum [.ref 164, .int (0 : Int32)] s20 (zKz (fun b22 s21 => s21.2.2.1 = s20.2.2.1 ∧ (if b22 = true then (zc l g d M_X8_ends [.ref 164, .int (12 : Int32)] s21 (zKz (fun b24 s23 => s23.2.2.1 = s21.2.2.1 ∧ (if b24 = true then K true s23 else K false s23)))) else K false s21))))))) else K false s18)))) else (zc l g d M_X8_passes [.ref 164, .int (0 : Int32)] s1 (zKz (fun b12 s11 => s11.2.2.1 = s1.2.2.1 ∧ (if b12 = true then (zc l g d M_X8_begins [.ref 164, .int (12 : Int32)] (zI s11 259 1 (1 : Int32)) (zKv (fun s13 => s13.2.2.1 = s11.2.2.1 ∧ (zc l g d M_X8_sum [.ref 164, .int (0 : Int32)] s13 (zKz (fun b15 s14 => s14.2.2.1 = s13.2.2.1 ∧ (if b15 = true then (zc l g d M_X8_ends [.ref 164, .int (12 : Int32)] s14 (zKz (fun b17 s16 => s16.2.2.1 = s14.2.2.1 ∧ (if b17 = true then K true s16 else K false s16)))) else K false s14))))))) else K false s11))))) else (zc l g d M_X8_isWord [.ref 164, .ref (2 + 17)] s1 (zKz (fun b4 s3 => s3.2.2.1 = s1.2.2.1 ∧ (if b4 = true then (if (12 : Int32) ≤ (s1.1 257 1) then (zc l g d M_X8_passes [.ref 164, .int (0 : Int32)] s3 (zKz (fun b8 s7 => s7.2.2.1 = s3.2.2.1 ∧ (if b8 = true then zt l g (d + 1) M_X8_line 110 [.ref 164, .int (s1.1 257 1), .int (-1 : Int32), .int (0 : Int32)] [] s7 (zKz K) else K false s7)))) else (zc l g d M_X8_passes [.ref 164, .int (1 : Int32)] s3 (zKz (fun b10 s9 => s9.2.2.1 = s3.2.2.1 ∧ (if b10 = true then zt l g (d + 1) M_X8_line 110 [.ref 164, .int (s1.1 257 1), .int (-1 : Int32), .int (0 : Int32)] [] s9 (zKz K) else K false s9))))) else (zc l g d M_X8_passes [.ref 164, .int (0 : Int32)] s3 (zKz (fun b6 s5 => s5.2.2.1 = s3.2.2.1 ∧ (if b6 = true then zt l g (d + 1) M_X8_line 110 [.ref 164, .int (s1.1 257 1), .int (-1 : Int32), .int (0 : Int32)] [] s5 (zKz K) else K false s5))))))))))))) : zc l g (d + 1) M_X8_line [.ref 164] s (zKz K) := by
  refine zCall_of k_X8_line (Nat.le_of_ble_eq_true rfl) (Nat.le_refl _) (fun _ => ?_)
  show zt l g (d + 1) M_X8_line 0 [.ref 164, zJ, zJ, zJ] [] s (zKz K)
  refine z_aload_n (i := 0) dX8_line_0 rfl rfl rfl ?_
  refine z_ldcSw (i := 16) (by decide) rfl rfl dX8_line_1 rfl ?_
  refine z_callV k_X8_isWord m_X8_365 (zRec_of i_164) rfl h rfl (Nat.le_of_ble_eq_true rfl) dX8_line_4 zy200 rfl ?_
  rintro v s1 ⟨b2, rfl, hRs1, h⟩
  show zt l g (d + 1) M_X8_line 7 [.ref 164, zJ, zJ, zJ] [.int (zb b2)] s1 _
  refine z_ifb_eq (pt := 69) dX8_line_7 (by decide) rfl (fun c => ?_) (fun c => ?_)
  · have h := zif h (by rw [c]; exact Bool.false_ne_true)
    refine z_aload_n (i := 0) dX8_line_69 rfl rfl rfl ?_
    refine z_getR (q := 257) f_X8_92 i_164 rfl (r_164_37 (zRok_of hRs1 hR)) (by decide) dX8_line_70 rfl ?_
    refine z_iconst (v := (1 : Int32)) dX8_line_73 (by decide) rfl ?_
    refine z_iald (x := s1.1 257 1) rfl a_257 (by unfold vp_in; decide) dX8_line_74 rfl ?_
    refine z_istore_n (i := 1) dX8_line_75 rfl (by decide) (zokd rfl) rfl ?_
    show zt l g (d + 1) M_X8_line 76 [.ref 164, .int (s1.1 257 1), zJ, zJ] [] s1 _
    refine z_aload_n (i := 0) dX8_line_76 rfl rfl rfl ?_
    refine z_aload_n (i := 0) dX8_line_77 rfl rfl rfl ?_
    refine z_ldcSw (i := 17) (by decide) rfl rfl dX8_line_78 rfl ?_
    refine z_callV k_X8_isWord m_X8_365 (zRec_of i_164) rfl h rfl (Nat.le_of_ble_eq_true rfl) dX8_line_81 zy200 rfl ?_
    rintro v s3 ⟨b4, rfl, hRs3, h⟩
    show zt l g (d + 1) M_X8_line 84 [.ref 164, .int (s1.1 257 1), zJ, zJ] [.int (zb b4), .ref 164] s3 _
    refine z_ifb_eq (pt := 97) dX8_line_84 (by decide) rfl (fun c => ?_) (fun c => ?_)
    · have h := zif h (by rw [c]; exact Bool.false_ne_true)
      refine z_iconst (v := (0 : Int32)) dX8_line_97 (by decide) rfl ?_
      refine z_callV k_X8_passes m_X8_355 (zRec_of i_164) rfl h rfl (Nat.le_of_ble_eq_true rfl) dX8_line_98 zy200 rfl ?_
      rintro v s5 ⟨b6, rfl, hRs5, h⟩
      show zt l g (d + 1) M_X8_line 101 [.ref 164, .int (s1.1 257 1), zJ, zJ] [.int (zb b6)] s5 _
      refine z_ifb_ne (pt := 106) dX8_line_101 (by decide) rfl (fun c => ?_) (fun c => ?_)
      · have h := zit h c
        refine z_iconst (v := (-1 : Int32)) dX8_line_106 (by decide) rfl ?_
        refine z_istore_n (i := 2) dX8_line_107 rfl (by decide) (zokd rfl) rfl ?_
        show zt l g (d + 1) M_X8_line 108 [.ref 164, .int (s1.1 257 1), .int (-1 : Int32), zJ] [] s5 _
        refine z_iconst (v := (0 : Int32)) dX8_line_108 (by decide) rfl ?_
        refine z_istore_n (i := 3) dX8_line_109 rfl (by decide) (zokd rfl) rfl ?_
        show zt l g (d + 1) M_X8_line 110 [.ref 164, .int (s1.1 257 1), .int (-1 : Int32), .int (0 : Int32)] [] s5 _
        exact h
      · have h := zif h (by rw [c]; exact Bool.false_ne_true)
        refine z_iconst (v := (0 : Int32)) dX8_line_104 (by decide) rfl ?_
        exact z_ret (some (.int (zb false))) (Or.inr (Or.inl ⟨_, _, rfl, rfl, zb_nar _, dX8_line_105⟩)) zN200 ⟨_, rfl, h⟩
    · have h := zit h c
      refine z_iload_n (i := 1) dX8_line_87 rfl rfl rfl ?_
      refine z_bipush (v := (12 : Int32)) dX8_line_88 (by decide) rfl ?_
      refine z_icmp_ge (pt := 97) dX8_line_90 (by decide) rfl (fun c => ?_) (fun c => ?_)
      · have h := zit h c
        refine z_iconst (v := (0 : Int32)) dX8_line_97 (by decide) rfl ?_
        refine z_callV k_X8_passes m_X8_355 (zRec_of i_164) rfl h rfl (Nat.le_of_ble_eq_true rfl) dX8_line_98 zy200 rfl ?_
        rintro v s7 ⟨b8, rfl, hRs7, h⟩
        show zt l g (d + 1) M_X8_line 101 [.ref 164, .int (s1.1 257 1), zJ, zJ] [.int (zb b8)] s7 _
        refine z_ifb_ne (pt := 106) dX8_line_101 (by decide) rfl (fun c => ?_) (fun c => ?_)
        · have h := zit h c
          refine z_iconst (v := (-1 : Int32)) dX8_line_106 (by decide) rfl ?_
          refine z_istore_n (i := 2) dX8_line_107 rfl (by decide) (zokd rfl) rfl ?_
          show zt l g (d + 1) M_X8_line 108 [.ref 164, .int (s1.1 257 1), .int (-1 : Int32), zJ] [] s7 _
          refine z_iconst (v := (0 : Int32)) dX8_line_108 (by decide) rfl ?_
          refine z_istore_n (i := 3) dX8_line_109 rfl (by decide) (zokd rfl) rfl ?_
          show zt l g (d + 1) M_X8_line 110 [.ref 164, .int (s1.1 257 1), .int (-1 : Int32), .int (0 : Int32)] [] s7 _
          exact h
        · have h := zif h (by rw [c]; exact Bool.false_ne_true)
          refine z_iconst (v := (0 : Int32)) dX8_line_104 (by decide) rfl ?_
          exact z_ret (some (.int (zb false))) (Or.inr (Or.inl ⟨_, _, rfl, rfl, zb_nar _, dX8_line_105⟩)) zN200 ⟨_, rfl, h⟩
      · have h := zif h c
        refine z_iconst (v := (1 : Int32)) dX8_line_93 (by decide) rfl ?_
        refine z_goto (pn := 98) dX8_line_94 (by decide) ?_
        refine z_callV k_X8_passes m_X8_355 (zRec_of i_164) rfl h rfl (Nat.le_of_ble_eq_true rfl) dX8_line_98 zy200 rfl ?_
        rintro v s9 ⟨b10, rfl, hRs9, h⟩
        show zt l g (d + 1) M_X8_line 101 [.ref 164, .int (s1.1 257 1), zJ, zJ] [.int (zb b10)] s9 _
        refine z_ifb_ne (pt := 106) dX8_line_101 (by decide) rfl (fun c => ?_) (fun c => ?_)
        · have h := zit h c
          refine z_iconst (v := (-1 : Int32)) dX8_line_106 (by decide) rfl ?_
          refine z_istore_n (i := 2) dX8_line_107 rfl (by decide) (zokd rfl) rfl ?_
          show zt l g (d + 1) M_X8_line 108 [.ref 164, .int (s1.1 257 1), .int (-1 : Int32), zJ] [] s9 _
          refine z_iconst (v := (0 : Int32)) dX8_line_108 (by decide) rfl ?_
          refine z_istore_n (i := 3) dX8_line_109 rfl (by decide) (zokd rfl) rfl ?_
          show zt l g (d + 1) M_X8_line 110 [.ref 164, .int (s1.1 257 1), .int (-1 : Int32), .int (0 : Int32)] [] s9 _
          exact h
        · have h := zif h (by rw [c]; exact Bool.false_ne_true)
          refine z_iconst (v := (0 : Int32)) dX8_line_104 (by decide) rfl ?_
          exact z_ret (some (.int (zb false))) (Or.inr (Or.inl ⟨_, _, rfl, rfl, zb_nar _, dX8_line_105⟩)) zN200 ⟨_, rfl, h⟩
  · have h := zit h c
    refine z_aload_n (i := 0) dX8_line_10 rfl rfl rfl ?_
    refine z_aload_n (i := 0) dX8_line_11 rfl rfl rfl ?_
    refine z_getR (q := 259) f_X8_98 i_164 rfl (r_164_39 (zRok_of hRs1 hR)) (by decide) dX8_line_12 rfl ?_
    refine z_iconst (v := (1 : Int32)) dX8_line_15 (by decide) rfl ?_
    refine z_zald (x := s1.1 259 1) rfl a_259 (by unfold vp_in; decide) dX8_line_16 rfl ?_
    refine z_if_ne (pt := 24) dX8_line_17 (by decide) rfl (fun c => ?_) (fun c => ?_)
    · have h := zif h c
      refine z_iconst (v := (0 : Int32)) dX8_line_24 (by decide) rfl ?_
      refine z_callV k_X8_passes m_X8_355 (zRec_of i_164) rfl h rfl (Nat.le_of_ble_eq_true rfl) dX8_line_25 zy200 rfl ?_
      rintro v s11 ⟨b12, rfl, hRs11, h⟩
      show zt l g (d + 1) M_X8_line 28 [.ref 164, zJ, zJ, zJ] [.int (zb b12)] s11 _
      refine z_ifb_ne (pt := 33) dX8_line_28 (by decide) rfl (fun c => ?_) (fun c => ?_)
      · have h := zit h c
        refine z_aload_n (i := 0) dX8_line_33 rfl rfl rfl ?_
        refine z_getR (q := 259) f_X8_98 i_164 rfl (r_164_39 (zRok_of hRs11 (zRok_of hRs1 hR))) (by decide) dX8_line_34 rfl ?_
        refine z_iconst (v := (1 : Int32)) dX8_line_37 (by decide) rfl ?_
        refine z_iconst (v := (1 : Int32)) dX8_line_38 (by decide) rfl ?_
        refine z_zast a_259 (by unfold vp_in; decide) (by decide) dX8_line_39 rfl ?_
        show zt l g (d + 1) M_X8_line 40 [.ref 164, zJ, zJ, zJ] [] (zI s11 259 1 (1 : Int32)) _
        refine z_aload_n (i := 0) dX8_line_40 rfl rfl rfl ?_
        refine z_bipush (v := (12 : Int32)) dX8_line_41 (by decide) rfl ?_
        refine z_callV k_X8_begins m_X8_383 (zRec_of i_164) rfl h rfl (Nat.le_of_ble_eq_true rfl) dX8_line_43 zy200 rfl ?_
        rintro v s13 ⟨rfl, hRs13, h⟩
        show zt l g (d + 1) M_X8_line 46 [.ref 164, zJ, zJ, zJ] [] s13 _
        refine z_aload_n (i := 0) dX8_line_46 rfl rfl rfl ?_
        refine z_iconst (v := (0 : Int32)) dX8_line_47 (by decide) rfl ?_
        refine z_callV k_X8_sum m_X8_359 (zRec_of i_164) rfl h rfl (Nat.le_of_ble_eq_true rfl) dX8_line_48 zy200 rfl ?_
        rintro v s14 ⟨b15, rfl, hRs14, h⟩
        show zt l g (d + 1) M_X8_line 51 [.ref 164, zJ, zJ, zJ] [.int (zb b15)] s14 _
        refine z_ifb_eq (pt := 67) dX8_line_51 (by decide) rfl (fun c => ?_) (fun c => ?_)
        · have h := zif h (by rw [c]; exact Bool.false_ne_true)
          refine z_iconst (v := (0 : Int32)) dX8_line_67 (by decide) rfl ?_
          exact z_ret (some (.int (zb false))) (Or.inr (Or.inl ⟨_, _, rfl, rfl, zb_nar _, dX8_line_68⟩)) zN200 ⟨_, rfl, h⟩
        · have h := zit h c
          refine z_aload_n (i := 0) dX8_line_54 rfl rfl rfl ?_
          refine z_bipush (v := (12 : Int32)) dX8_line_55 (by decide) rfl ?_
          refine z_callV k_X8_ends m_X8_386 (zRec_of i_164) rfl h rfl (Nat.le_of_ble_eq_true rfl) dX8_line_57 zy200 rfl ?_
          rintro v s16 ⟨b17, rfl, hRs16, h⟩
          show zt l g (d + 1) M_X8_line 60 [.ref 164, zJ, zJ, zJ] [.int (zb b17)] s16 _
          refine z_ifb_eq (pt := 67) dX8_line_60 (by decide) rfl (fun c => ?_) (fun c => ?_)
          · have h := zif h (by rw [c]; exact Bool.false_ne_true)
            refine z_iconst (v := (0 : Int32)) dX8_line_67 (by decide) rfl ?_
            exact z_ret (some (.int (zb false))) (Or.inr (Or.inl ⟨_, _, rfl, rfl, zb_nar _, dX8_line_68⟩)) zN200 ⟨_, rfl, h⟩
          · have h := zit h c
            refine z_iconst (v := (1 : Int32)) dX8_line_63 (by decide) rfl ?_
            refine z_goto (pn := 68) dX8_line_64 (by decide) ?_
            exact z_ret (some (.int (zb true))) (Or.inr (Or.inl ⟨_, _, rfl, rfl, zb_nar _, dX8_line_68⟩)) zN200 ⟨_, rfl, h⟩
      · have h := zif h (by rw [c]; exact Bool.false_ne_true)
        refine z_iconst (v := (0 : Int32)) dX8_line_31 (by decide) rfl ?_
        exact z_ret (some (.int (zb false))) (Or.inr (Or.inl ⟨_, _, rfl, rfl, zb_nar _, dX8_line_32⟩)) zN200 ⟨_, rfl, h⟩
    · have h := zit h c
      refine z_iconst (v := (1 : Int32)) dX8_line_20 (by decide) rfl ?_
      refine z_goto (pn := 25) dX8_line_21 (by decide) ?_
      refine z_callV k_X8_passes m_X8_355 (zRec_of i_164) rfl h rfl (Nat.le_of_ble_eq_true rfl) dX8_line_25 zy200 rfl ?_
      rintro v s18 ⟨b19, rfl, hRs18, h⟩
      show zt l g (d + 1) M_X8_line 28 [.ref 164, zJ, zJ, zJ] [.int (zb b19)] s18 _
      refine z_ifb_ne (pt := 33) dX8_line_28 (by decide) rfl (fun c => ?_) (fun c => ?_)
      · have h := zit h c
        refine z_aload_n (i := 0) dX8_line_33 rfl rfl rfl ?_
        refine z_getR (q := 259) f_X8_98 i_164 rfl (r_164_39 (zRok_of hRs18 (zRok_of hRs1 hR))) (by decide) dX8_line_34 rfl ?_
        refine z_iconst (v := (1 : Int32)) dX8_line_37 (by decide) rfl ?_
        refine z_iconst (v := (1 : Int32)) dX8_line_38 (by decide) rfl ?_
        refine z_zast a_259 (by unfold vp_in; decide) (by decide) dX8_line_39 rfl ?_
        show zt l g (d + 1) M_X8_line 40 [.ref 164, zJ, zJ, zJ] [] (zI s18 259 1 (1 : Int32)) _
        refine z_aload_n (i := 0) dX8_line_40 rfl rfl rfl ?_
        refine z_bipush (v := (12 : Int32)) dX8_line_41 (by decide) rfl ?_
        refine z_callV k_X8_begins m_X8_383 (zRec_of i_164) rfl h rfl (Nat.le_of_ble_eq_true rfl) dX8_line_43 zy200 rfl ?_
        rintro v s20 ⟨rfl, hRs20, h⟩
        show zt l g (d + 1) M_X8_line 46 [.ref 164, zJ, zJ, zJ] [] s20 _
        refine z_aload_n (i := 0) dX8_line_46 rfl rfl rfl ?_
        refine z_iconst (v := (0 : Int32)) dX8_line_47 (by decide) rfl ?_
        refine z_callV k_X8_sum m_X8_359 (zRec_of i_164) rfl h rfl (Nat.le_of_ble_eq_true rfl) dX8_line_48 zy200 rfl ?_
        rintro v s21 ⟨b22, rfl, hRs21, h⟩
        show zt l g (d + 1) M_X8_line 51 [.ref 164, zJ, zJ, zJ] [.int (zb b22)] s21 _
        refine z_ifb_eq (pt := 67) dX8_line_51 (by decide) rfl (fun c => ?_) (fun c => ?_)
        · have h := zif h (by rw [c]; exact Bool.false_ne_true)
          refine z_iconst (v := (0 : Int32)) dX8_line_67 (by decide) rfl ?_
          exact z_ret (some (.int (zb false))) (Or.inr (Or.inl ⟨_, _, rfl, rfl, zb_nar _, dX8_line_68⟩)) zN200 ⟨_, rfl, h⟩
        · have h := zit h c
          refine z_aload_n (i := 0) dX8_line_54 rfl rfl rfl ?_
          refine z_bipush (v := (12 : Int32)) dX8_line_55 (by decide) rfl ?_
          refine z_callV k_X8_ends m_X8_386 (zRec_of i_164) rfl h rfl (Nat.le_of_ble_eq_true rfl) dX8_line_57 zy200 rfl ?_
          rintro v s23 ⟨b24, rfl, hRs23, h⟩
          show zt l g (d + 1) M_X8_line 60 [.ref 164, zJ, zJ, zJ] [.int (zb b24)] s23 _
          refine z_ifb_eq (pt := 67) dX8_line_60 (by decide) rfl (fun c => ?_) (fun c => ?_)
          · have h := zif h (by rw [c]; exact Bool.false_ne_true)
            refine z_iconst (v := (0 : Int32)) dX8_line_67 (by decide) rfl ?_
            exact z_ret (some (.int (zb false))) (Or.inr (Or.inl ⟨_, _, rfl, rfl, zb_nar _, dX8_line_68⟩)) zN200 ⟨_, rfl, h⟩
          · have h := zit h c
            refine z_iconst (v := (1 : Int32)) dX8_line_63 (by decide) rfl ?_
            refine z_goto (pn := 68) dX8_line_64 (by decide) ?_
            exact z_ret (some (.int (zb true))) (Or.inr (Or.inl ⟨_, _, rfl, rfl, zb_nar _, dX8_line_68⟩)) zN200 ⟨_, rfl, h⟩
      · have h := zif h (by rw [c]; exact Bool.false_ne_true)
        refine z_iconst (v := (0 : Int32)) dX8_line_31 (by decide) rfl ?_
        exact z_ret (some (.int (zb false))) (Or.inr (Or.inl ⟨_, _, rfl, rfl, zb_nar _, dX8_line_32⟩)) zN200 ⟨_, rfl, h⟩
set_option maxHeartbeats 4000000 in
set_option maxRecDepth 100000 in
theorem t_X8_line_110 {l : Launch} {g : zG} {d : Nat} {s : zS} (hR : zRok s) {x1 : Int32} {x2 : Int32} {x3 : Int32} {K : Bool → zS → Prop} (h : (if (7 : Int32) ≤ x3 then (if x2 = (-1 : Int32) then (zc l g d M_X8_passes [.ref 164, .int (0 : Int32)] s (zKz (fun b2 s1 => s1.2.2.1 = s.2.2.1 ∧ (if b2 = true then (zc l g d M_X8_isWord [.ref 164, .ref (2 + 18)] s1 (zKz (fun b4 s3 => s3.2.2.1 = s1.2.2.1 ∧ (zc l g d M_X8_passes [.ref 164, .int (zb b4)] s3 (zKz (fun b6 s5 => s5.2.2.1 = s3.2.2.1 ∧ (if b6 = true then (vp_in x1 13 ∧ (zc l g d M_X8_begins [.ref 164, .int x1] (zI s5 256 x1.toNatClampNeg x2) (zKv (fun s8 => s8.2.2.1 = s5.2.2.1 ∧ (zc l g d M_X8_holdsRead [.ref 164] (zI s8 257 1 ((s8.1 257 1) + (1 : Int32))) (zKz (fun b10 s9 => s9.2.2.1 = s8.2.2.1 ∧ (if b10 = true then (zc l g d M_X8_ends [.ref 164, .int x1] s9 (zKz (fun b12 s11 => s11.2.2.1 = s9.2.2.1 ∧ (if b12 = true then K true s11 else K false s11)))) else K false s9)))))))) else K false s5))))))) else K false s1)))) else (zc l g d M_X8_passes [.ref 164, .int (1 : Int32)] s (zKz (fun b14 s13 => s13.2.2.1 = s.2.2.1 ∧ (if b14 = true then (zc l g d M_X8_isWord [.ref 164, .ref (2 + 18)] s13 (zKz (fun b16 s15 => s15.2.2.1 = s13.2.2.1 ∧ (zc l g d M_X8_passes [.ref 164, .int (zb b16)] s15 (zKz (fun b18 s17 => s17.2.2.1 = s15.2.2.1 ∧ (if b18 = true then (vp_in x1 13 ∧ (zc l g d M_X8_begins [.ref 164, .int x1] (zI s17 256 x1.toNatClampNeg x2) (zKv (fun s20 => s20.2.2.1 = s17.2.2.1 ∧ (zc l g d M_X8_holdsRead [.ref 164] (zI s20 257 1 ((s20.1 257 1) + (1 : Int32))) (zKz (fun b22 s21 => s21.2.2.1 = s20.2.2.1 ∧ (if b22 = true then (zc l g d M_X8_ends [.ref 164, .int x1] s21 (zKz (fun b24 s23 => s23.2.2.1 = s21.2.2.1 ∧ (if b24 = true then K true s23 else K false s23)))) else K false s21)))))))) else K false s17))))))) else K false s13))))) else (vp_in x3 7 ∧ (zc l g d M_X8_isWord [.ref 164, .ref (2 + (2 + x3.toNatClampNeg))] s (zKz (fun b27 s26 => s26.2.2.1 = s.2.2.1 ∧ (if b27 = true then zt l g (d + 1) M_X8_line 110 [.ref 164, .int x1, .int x3, .int (x3 + (1 : Int32))] [] s26 (zKz K) else zt l g (d + 1) M_X8_line 110 [.ref 164, .int x1, .int x2, .int (x3 + (1 : Int32))] [] s26 (zKz K)))))))) : zt l g (d + 1) M_X8_line 110 [.ref 164, .int x1, .int x2, .int x3] [] s (zKz K) := by
  refine z_iload_n (i := 3) dX8_line_110 rfl rfl rfl ?_
  refine z_bipush (v := (7 : Int32)) dX8_line_111 (by decide) rfl ?_
  refine z_icmp_ge (pt := 137) dX8_line_113 (by decide) rfl (fun c => ?_) (fun c => ?_)
  · have h := zit h c
    refine z_aload_n (i := 0) dX8_line_137 rfl rfl rfl ?_
    refine z_iload_n (i := 2) dX8_line_138 rfl rfl rfl ?_
    refine z_iconst (v := (-1 : Int32)) dX8_line_139 (by decide) rfl ?_
    refine z_icmp_eq (pt := 147) dX8_line_140 (by decide) rfl (fun c => ?_) (fun c => ?_)
    · have h := zit h c
      refine z_iconst (v := (0 : Int32)) dX8_line_147 (by decide) rfl ?_
      refine z_callV k_X8_passes m_X8_355 (zRec_of i_164) rfl h rfl (Nat.le_of_ble_eq_true rfl) dX8_line_148 zy200 rfl ?_
      rintro v s1 ⟨b2, rfl, hRs1, h⟩
      show zt l g (d + 1) M_X8_line 151 [.ref 164, .int x1, .int x2, .int x3] [.int (zb b2)] s1 _
      refine z_ifb_eq (pt := 168) dX8_line_151 (by decide) rfl (fun c => ?_) (fun c => ?_)
      · have h := zif h (by rw [c]; exact Bool.false_ne_true)
        refine z_iconst (v := (0 : Int32)) dX8_line_168 (by decide) rfl ?_
        exact z_ret (some (.int (zb false))) (Or.inr (Or.inl ⟨_, _, rfl, rfl, zb_nar _, dX8_line_169⟩)) zN200 ⟨_, rfl, h⟩
      · have h := zit h c
        refine z_aload_n (i := 0) dX8_line_154 rfl rfl rfl ?_
        refine z_aload_n (i := 0) dX8_line_155 rfl rfl rfl ?_
        refine z_ldcSw (i := 18) (by decide) rfl rfl dX8_line_156 rfl ?_
        refine z_callV k_X8_isWord m_X8_365 (zRec_of i_164) rfl h rfl (Nat.le_of_ble_eq_true rfl) dX8_line_159 zy200 rfl ?_
        rintro v s3 ⟨b4, rfl, hRs3, h⟩
        show zt l g (d + 1) M_X8_line 162 [.ref 164, .int x1, .int x2, .int x3] [.int (zb b4), .ref 164] s3 _
        refine z_callV k_X8_passes m_X8_355 (zRec_of i_164) rfl h rfl (Nat.le_of_ble_eq_true rfl) dX8_line_162 zy200 rfl ?_
        rintro v s5 ⟨b6, rfl, hRs5, h⟩
        show zt l g (d + 1) M_X8_line 165 [.ref 164, .int x1, .int x2, .int x3] [.int (zb b6)] s5 _
        refine z_ifb_ne (pt := 170) dX8_line_165 (by decide) rfl (fun c => ?_) (fun c => ?_)
        · have h := zit h c
          refine z_aload_n (i := 0) dX8_line_170 rfl rfl rfl ?_
          refine z_getR (q := 254) f_X8_89 i_164 rfl (r_164_36 (zRok_of hRs5 (zRok_of hRs3 (zRok_of hRs1 hR)))) (by decide) dX8_line_171 rfl ?_
          refine z_iconst (v := (1 : Int32)) dX8_line_174 (by decide) rfl ?_
          refine z_aald (q := 256) (by decide) a_254 (by unfold vp_in; decide) (by have := (zRok_of hRs5 (zRok_of hRs3 (zRok_of hRs1 hR))).1 254 1 (by decide); exact this) (by decide) dX8_line_175 rfl ?_
          refine z_iload_n (i := 1) dX8_line_176 rfl rfl rfl ?_
          refine z_iload_n (i := 2) dX8_line_177 rfl rfl rfl ?_
          obtain ⟨a7, h⟩ := h
          have wa7 := vin a7
          refine z_iast a_256 a7 dX8_line_178 rfl ?_
          show zt l g (d + 1) M_X8_line 179 [.ref 164, .int x1, .int x2, .int x3] [] (zI s5 256 x1.toNatClampNeg x2) _
          refine z_aload_n (i := 0) dX8_line_179 rfl rfl rfl ?_
          refine z_iload_n (i := 1) dX8_line_180 rfl rfl rfl ?_
          refine z_callV k_X8_begins m_X8_383 (zRec_of i_164) rfl h rfl (Nat.le_of_ble_eq_true rfl) dX8_line_181 zy200 rfl ?_
          rintro v s8 ⟨rfl, hRs8, h⟩
          show zt l g (d + 1) M_X8_line 184 [.ref 164, .int x1, .int x2, .int x3] [] s8 _
          refine z_aload_n (i := 0) dX8_line_184 rfl rfl rfl ?_
          refine z_getR (q := 257) f_X8_92 i_164 rfl (r_164_37 (zRok_of hRs8 (zRok_of hRs5 (zRok_of hRs3 (zRok_of hRs1 hR))))) (by decide) dX8_line_185 rfl ?_
          refine z_iconst (v := (1 : Int32)) dX8_line_188 (by decide) rfl ?_
          refine z_dup2 dX8_line_189 rfl rfl rfl ?_
          refine z_iald (x := s8.1 257 1) rfl a_257 (by unfold vp_in; decide) dX8_line_190 rfl ?_
          refine z_iconst (v := (1 : Int32)) dX8_line_191 (by decide) rfl ?_
          refine z_iadd dX8_line_192 rfl ?_
          refine z_iast a_257 (by unfold vp_in; decide) dX8_line_193 rfl ?_
          show zt l g (d + 1) M_X8_line 194 [.ref 164, .int x1, .int x2, .int x3] [] (zI s8 257 1 ((s8.1 257 1) + (1 : Int32))) _
          refine z_aload_n (i := 0) dX8_line_194 rfl rfl rfl ?_
          refine z_callV k_X8_holdsRead m_X8_393 (zRec_of i_164) rfl h rfl (Nat.le_of_ble_eq_true rfl) dX8_line_195 zy200 rfl ?_
          rintro v s9 ⟨b10, rfl, hRs9, h⟩
          show zt l g (d + 1) M_X8_line 198 [.ref 164, .int x1, .int x2, .int x3] [.int (zb b10)] s9 _
          refine z_ifb_eq (pt := 213) dX8_line_198 (by decide) rfl (fun c => ?_) (fun c => ?_)
          · have h := zif h (by rw [c]; exact Bool.false_ne_true)
            refine z_iconst (v := (0 : Int32)) dX8_line_213 (by decide) rfl ?_
            exact z_ret (some (.int (zb false))) (Or.inr (Or.inl ⟨_, _, rfl, rfl, zb_nar _, dX8_line_214⟩)) zN200 ⟨_, rfl, h⟩
          · have h := zit h c
            refine z_aload_n (i := 0) dX8_line_201 rfl rfl rfl ?_
            refine z_iload_n (i := 1) dX8_line_202 rfl rfl rfl ?_
            refine z_callV k_X8_ends m_X8_386 (zRec_of i_164) rfl h rfl (Nat.le_of_ble_eq_true rfl) dX8_line_203 zy200 rfl ?_
            rintro v s11 ⟨b12, rfl, hRs11, h⟩
            show zt l g (d + 1) M_X8_line 206 [.ref 164, .int x1, .int x2, .int x3] [.int (zb b12)] s11 _
            refine z_ifb_eq (pt := 213) dX8_line_206 (by decide) rfl (fun c => ?_) (fun c => ?_)
            · have h := zif h (by rw [c]; exact Bool.false_ne_true)
              refine z_iconst (v := (0 : Int32)) dX8_line_213 (by decide) rfl ?_
              exact z_ret (some (.int (zb false))) (Or.inr (Or.inl ⟨_, _, rfl, rfl, zb_nar _, dX8_line_214⟩)) zN200 ⟨_, rfl, h⟩
            · have h := zit h c
              refine z_iconst (v := (1 : Int32)) dX8_line_209 (by decide) rfl ?_
              refine z_goto (pn := 214) dX8_line_210 (by decide) ?_
              exact z_ret (some (.int (zb true))) (Or.inr (Or.inl ⟨_, _, rfl, rfl, zb_nar _, dX8_line_214⟩)) zN200 ⟨_, rfl, h⟩
        · have h := zif h (by rw [c]; exact Bool.false_ne_true)
          refine z_iconst (v := (0 : Int32)) dX8_line_168 (by decide) rfl ?_
          exact z_ret (some (.int (zb false))) (Or.inr (Or.inl ⟨_, _, rfl, rfl, zb_nar _, dX8_line_169⟩)) zN200 ⟨_, rfl, h⟩
    · have h := zif h c
      refine z_iconst (v := (1 : Int32)) dX8_line_143 (by decide) rfl ?_
      refine z_goto (pn := 148) dX8_line_144 (by decide) ?_
      refine z_callV k_X8_passes m_X8_355 (zRec_of i_164) rfl h rfl (Nat.le_of_ble_eq_true rfl) dX8_line_148 zy200 rfl ?_
      rintro v s13 ⟨b14, rfl, hRs13, h⟩
      show zt l g (d + 1) M_X8_line 151 [.ref 164, .int x1, .int x2, .int x3] [.int (zb b14)] s13 _
      refine z_ifb_eq (pt := 168) dX8_line_151 (by decide) rfl (fun c => ?_) (fun c => ?_)
      · have h := zif h (by rw [c]; exact Bool.false_ne_true)
        refine z_iconst (v := (0 : Int32)) dX8_line_168 (by decide) rfl ?_
        exact z_ret (some (.int (zb false))) (Or.inr (Or.inl ⟨_, _, rfl, rfl, zb_nar _, dX8_line_169⟩)) zN200 ⟨_, rfl, h⟩
      · have h := zit h c
        refine z_aload_n (i := 0) dX8_line_154 rfl rfl rfl ?_
        refine z_aload_n (i := 0) dX8_line_155 rfl rfl rfl ?_
        refine z_ldcSw (i := 18) (by decide) rfl rfl dX8_line_156 rfl ?_
        refine z_callV k_X8_isWord m_X8_365 (zRec_of i_164) rfl h rfl (Nat.le_of_ble_eq_true rfl) dX8_line_159 zy200 rfl ?_
        rintro v s15 ⟨b16, rfl, hRs15, h⟩
        show zt l g (d + 1) M_X8_line 162 [.ref 164, .int x1, .int x2, .int x3] [.int (zb b16), .ref 164] s15 _
        refine z_callV k_X8_passes m_X8_355 (zRec_of i_164) rfl h rfl (Nat.le_of_ble_eq_true rfl) dX8_line_162 zy200 rfl ?_
        rintro v s17 ⟨b18, rfl, hRs17, h⟩
        show zt l g (d + 1) M_X8_line 165 [.ref 164, .int x1, .int x2, .int x3] [.int (zb b18)] s17 _
        refine z_ifb_ne (pt := 170) dX8_line_165 (by decide) rfl (fun c => ?_) (fun c => ?_)
        · have h := zit h c
          refine z_aload_n (i := 0) dX8_line_170 rfl rfl rfl ?_
          refine z_getR (q := 254) f_X8_89 i_164 rfl (r_164_36 (zRok_of hRs17 (zRok_of hRs15 (zRok_of hRs13 hR)))) (by decide) dX8_line_171 rfl ?_
          refine z_iconst (v := (1 : Int32)) dX8_line_174 (by decide) rfl ?_
          refine z_aald (q := 256) (by decide) a_254 (by unfold vp_in; decide) (by have := (zRok_of hRs17 (zRok_of hRs15 (zRok_of hRs13 hR))).1 254 1 (by decide); exact this) (by decide) dX8_line_175 rfl ?_
          refine z_iload_n (i := 1) dX8_line_176 rfl rfl rfl ?_
          refine z_iload_n (i := 2) dX8_line_177 rfl rfl rfl ?_
          obtain ⟨a19, h⟩ := h
          have wa19 := vin a19
          refine z_iast a_256 a19 dX8_line_178 rfl ?_
          show zt l g (d + 1) M_X8_line 179 [.ref 164, .int x1, .int x2, .int x3] [] (zI s17 256 x1.toNatClampNeg x2) _
          refine z_aload_n (i := 0) dX8_line_179 rfl rfl rfl ?_
          refine z_iload_n (i := 1) dX8_line_180 rfl rfl rfl ?_
          refine z_callV k_X8_begins m_X8_383 (zRec_of i_164) rfl h rfl (Nat.le_of_ble_eq_true rfl) dX8_line_181 zy200 rfl ?_
          rintro v s20 ⟨rfl, hRs20, h⟩
          show zt l g (d + 1) M_X8_line 184 [.ref 164, .int x1, .int x2, .int x3] [] s20 _
          refine z_aload_n (i := 0) dX8_line_184 rfl rfl rfl ?_
          refine z_getR (q := 257) f_X8_92 i_164 rfl (r_164_37 (zRok_of hRs20 (zRok_of hRs17 (zRok_of hRs15 (zRok_of hRs13 hR))))) (by decide) dX8_line_185 rfl ?_
          refine z_iconst (v := (1 : Int32)) dX8_line_188 (by decide) rfl ?_
          refine z_dup2 dX8_line_189 rfl rfl rfl ?_
          refine z_iald (x := s20.1 257 1) rfl a_257 (by unfold vp_in; decide) dX8_line_190 rfl ?_
          refine z_iconst (v := (1 : Int32)) dX8_line_191 (by decide) rfl ?_
          refine z_iadd dX8_line_192 rfl ?_
          refine z_iast a_257 (by unfold vp_in; decide) dX8_line_193 rfl ?_
          show zt l g (d + 1) M_X8_line 194 [.ref 164, .int x1, .int x2, .int x3] [] (zI s20 257 1 ((s20.1 257 1) + (1 : Int32))) _
          refine z_aload_n (i := 0) dX8_line_194 rfl rfl rfl ?_
          refine z_callV k_X8_holdsRead m_X8_393 (zRec_of i_164) rfl h rfl (Nat.le_of_ble_eq_true rfl) dX8_line_195 zy200 rfl ?_
          rintro v s21 ⟨b22, rfl, hRs21, h⟩
          show zt l g (d + 1) M_X8_line 198 [.ref 164, .int x1, .int x2, .int x3] [.int (zb b22)] s21 _
          refine z_ifb_eq (pt := 213) dX8_line_198 (by decide) rfl (fun c => ?_) (fun c => ?_)
          · have h := zif h (by rw [c]; exact Bool.false_ne_true)
            refine z_iconst (v := (0 : Int32)) dX8_line_213 (by decide) rfl ?_
            exact z_ret (some (.int (zb false))) (Or.inr (Or.inl ⟨_, _, rfl, rfl, zb_nar _, dX8_line_214⟩)) zN200 ⟨_, rfl, h⟩
          · have h := zit h c
            refine z_aload_n (i := 0) dX8_line_201 rfl rfl rfl ?_
            refine z_iload_n (i := 1) dX8_line_202 rfl rfl rfl ?_
            refine z_callV k_X8_ends m_X8_386 (zRec_of i_164) rfl h rfl (Nat.le_of_ble_eq_true rfl) dX8_line_203 zy200 rfl ?_
            rintro v s23 ⟨b24, rfl, hRs23, h⟩
            show zt l g (d + 1) M_X8_line 206 [.ref 164, .int x1, .int x2, .int x3] [.int (zb b24)] s23 _
            refine z_ifb_eq (pt := 213) dX8_line_206 (by decide) rfl (fun c => ?_) (fun c => ?_)
            · have h := zif h (by rw [c]; exact Bool.false_ne_true)
              refine z_iconst (v := (0 : Int32)) dX8_line_213 (by decide) rfl ?_
              exact z_ret (some (.int (zb false))) (Or.inr (Or.inl ⟨_, _, rfl, rfl, zb_nar _, dX8_line_214⟩)) zN200 ⟨_, rfl, h⟩
            · have h := zit h c
              refine z_iconst (v := (1 : Int32)) dX8_line_209 (by decide) rfl ?_
              refine z_goto (pn := 214) dX8_line_210 (by decide) ?_
              exact z_ret (some (.int (zb true))) (Or.inr (Or.inl ⟨_, _, rfl, rfl, zb_nar _, dX8_line_214⟩)) zN200 ⟨_, rfl, h⟩
        · have h := zif h (by rw [c]; exact Bool.false_ne_true)
          refine z_iconst (v := (0 : Int32)) dX8_line_168 (by decide) rfl ?_
          exact z_ret (some (.int (zb false))) (Or.inr (Or.inl ⟨_, _, rfl, rfl, zb_nar _, dX8_line_169⟩)) zN200 ⟨_, rfl, h⟩
  · have h := zif h c
    refine z_aload_n (i := 0) dX8_line_116 rfl rfl rfl ?_
    refine z_aload_n (i := 0) dX8_line_117 rfl rfl rfl ?_
    refine z_getR (q := 262) f_X8_124 i_164 rfl (r_164_42 hR) (by decide) dX8_line_118 rfl ?_
    refine z_iload_n (i := 3) dX8_line_121 rfl rfl rfl ?_
    obtain ⟨a25, h⟩ := h
    have wa25 := vin a25
    refine z_aald (q := 2 + (2 + x3.toNatClampNeg)) (by decide) a_262 a25 (r_262 hR a25) (by omega) dX8_line_122 rfl ?_
    refine z_callV k_X8_isWord m_X8_365 (zRec_of i_164) rfl h rfl (Nat.le_of_ble_eq_true rfl) dX8_line_123 zy200 rfl ?_
    rintro v s26 ⟨b27, rfl, hRs26, h⟩
    show zt l g (d + 1) M_X8_line 126 [.ref 164, .int x1, .int x2, .int x3] [.int (zb b27)] s26 _
    refine z_ifb_eq (pt := 131) dX8_line_126 (by decide) rfl (fun c => ?_) (fun c => ?_)
    · have h := zif h (by rw [c]; exact Bool.false_ne_true)
      refine z_iinc (v := x3 + (1 : Int32)) dX8_line_131 rfl rfl (by decide) (zokd rfl) rfl ?_
      show zt l g (d + 1) M_X8_line 134 [.ref 164, .int x1, .int x2, .int (x3 + (1 : Int32))] [] s26 _
      refine z_goto (pn := 110) dX8_line_134 (by decide) ?_
      exact h
    · have h := zit h c
      refine z_iload_n (i := 3) dX8_line_129 rfl rfl rfl ?_
      refine z_istore_n (i := 2) dX8_line_130 rfl (by decide) (zokd rfl) rfl ?_
      show zt l g (d + 1) M_X8_line 131 [.ref 164, .int x1, .int x3, .int x3] [] s26 _
      refine z_iinc (v := x3 + (1 : Int32)) dX8_line_131 rfl rfl (by decide) (zokd rfl) rfl ?_
      show zt l g (d + 1) M_X8_line 134 [.ref 164, .int x1, .int x3, .int (x3 + (1 : Int32))] [] s26 _
      refine z_goto (pn := 110) dX8_line_134 (by decide) ?_
      exact h
theorem dX8_reads_0 : decode cX8_reads 0 = .ok (.aload_n 0, 1) := by decide +kernel
theorem dX8_reads_1 : decode cX8_reads 1 = .ok (.iconst (-1), 1) := by decide +kernel
theorem dX8_reads_2 : decode cX8_reads 2 = .ok (.putfield 338, 3) := by decide +kernel
theorem dX8_reads_5 : decode cX8_reads 5 = .ok (.aload_n 0, 1) := by decide +kernel
theorem dX8_reads_6 : decode cX8_reads 6 = .ok (.getfield 92, 3) := by decide +kernel
theorem dX8_reads_9 : decode cX8_reads 9 = .ok (.iconst 1, 1) := by decide +kernel
theorem dX8_reads_10 : decode cX8_reads 10 = .ok (.iconst 0, 1) := by decide +kernel
theorem dX8_reads_11 : decode cX8_reads 11 = .ok (.iastore, 1) := by decide +kernel
theorem dX8_reads_12 : decode cX8_reads 12 = .ok (.aload_n 0, 1) := by decide +kernel
theorem dX8_reads_13 : decode cX8_reads 13 = .ok (.getfield 95, 3) := by decide +kernel
theorem dX8_reads_16 : decode cX8_reads 16 = .ok (.iconst 1, 1) := by decide +kernel
theorem dX8_reads_17 : decode cX8_reads 17 = .ok (.iconst 0, 1) := by decide +kernel
theorem dX8_reads_18 : decode cX8_reads 18 = .ok (.iastore, 1) := by decide +kernel
theorem dX8_reads_19 : decode cX8_reads 19 = .ok (.aload_n 0, 1) := by decide +kernel
theorem dX8_reads_20 : decode cX8_reads 20 = .ok (.getfield 98, 3) := by decide +kernel
theorem dX8_reads_23 : decode cX8_reads 23 = .ok (.iconst 1, 1) := by decide +kernel
theorem dX8_reads_24 : decode cX8_reads 24 = .ok (.iconst 0, 1) := by decide +kernel
theorem dX8_reads_25 : decode cX8_reads 25 = .ok (.bastore, 1) := by decide +kernel
theorem dX8_reads_26 : decode cX8_reads 26 = .ok (.aload_n 0, 1) := by decide +kernel
theorem dX8_reads_27 : decode cX8_reads 27 = .ok (.iconst 0, 1) := by decide +kernel
theorem dX8_reads_28 : decode cX8_reads 28 = .ok (.putfield 329, 3) := by decide +kernel
theorem dX8_reads_31 : decode cX8_reads 31 = .ok (.aload_n 0, 1) := by decide +kernel
theorem dX8_reads_32 : decode cX8_reads 32 = .ok (.invokevirtual 341, 3) := by decide +kernel
theorem dX8_reads_35 : decode cX8_reads 35 = .ok (.aload_n 0, 1) := by decide +kernel
theorem dX8_reads_36 : decode cX8_reads 36 = .ok (.getfield 332, 3) := by decide +kernel
theorem dX8_reads_39 : decode cX8_reads 39 = .ok (.aload_n 0, 1) := by decide +kernel
theorem dX8_reads_40 : decode cX8_reads 40 = .ok (.getfield 322, 3) := by decide +kernel
theorem dX8_reads_43 : decode cX8_reads 43 = .ok (.if_icmp .ne 12, 3) := by decide +kernel
theorem dX8_reads_46 : decode cX8_reads 46 = .ok (.aload_n 0, 1) := by decide +kernel
theorem dX8_reads_47 : decode cX8_reads 47 = .ok (.aload_n 0, 1) := by decide +kernel
theorem dX8_reads_48 : decode cX8_reads 48 = .ok (.getfield 322, 3) := by decide +kernel
theorem dX8_reads_51 : decode cX8_reads 51 = .ok (.putfield 338, 3) := by decide +kernel
theorem dX8_reads_54 : decode cX8_reads 54 = .ok (.return_, 1) := by decide +kernel
theorem dX8_reads_55 : decode cX8_reads 55 = .ok (.iconst 1, 1) := by decide +kernel
theorem dX8_reads_56 : decode cX8_reads 56 = .ok (.istore_n 1, 1) := by decide +kernel
theorem dX8_reads_57 : decode cX8_reads 57 = .ok (.iload_n 1, 1) := by decide +kernel
theorem dX8_reads_58 : decode cX8_reads 58 = .ok (.ifCond .eq 22, 3) := by decide +kernel
theorem dX8_reads_61 : decode cX8_reads 61 = .ok (.aload_n 0, 1) := by decide +kernel
theorem dX8_reads_62 : decode cX8_reads 62 = .ok (.getfield 332, 3) := by decide +kernel
theorem dX8_reads_65 : decode cX8_reads 65 = .ok (.aload_n 0, 1) := by decide +kernel
theorem dX8_reads_66 : decode cX8_reads 66 = .ok (.getfield 322, 3) := by decide +kernel
theorem dX8_reads_69 : decode cX8_reads 69 = .ok (.if_icmp .ge 11, 3) := by decide +kernel
theorem dX8_reads_72 : decode cX8_reads 72 = .ok (.aload_n 0, 1) := by decide +kernel
theorem dX8_reads_73 : decode cX8_reads 73 = .ok (.invokevirtual 396, 3) := by decide +kernel
theorem dX8_reads_76 : decode cX8_reads 76 = .ok (.istore_n 1, 1) := by decide +kernel
theorem dX8_reads_77 : decode cX8_reads 77 = .ok (.goto (-20), 3) := by decide +kernel
theorem dX8_reads_80 : decode cX8_reads 80 = .ok (.return_, 1) := by decide +kernel
set_option maxHeartbeats 4000000 in
set_option maxRecDepth 100000 in
theorem t_X8_reads {l : Launch} {g : zG} {d : Nat} {s : zS} (hR : zRok s)  {K : zS → Prop} (h : (zc l g d M_X8_next [.ref 164] (zI (zI (zI (zI (zI s 164 32 (-1 : Int32)) 257 1 (0 : Int32)) 258 1 (0 : Int32)) 259 1 (0 : Int32)) 164 31 (0 : Int32)) (zKv (fun s1 => s1.2.2.1 = s.2.2.1 ∧ (if (s1.1 164 30) = (s1.1 164 29) then K (zI s1 164 32 (s1.1 164 29)) else zt l g (d + 1) M_X8_reads 57 [.ref 164, .int (1 : Int32)] [] s1 (zKv K)))))) : zc l g (d + 1) M_X8_reads [.ref 164] s (zKv K) := by
  refine zCall_of k_X8_reads (Nat.le_of_ble_eq_true rfl) (Nat.le_refl _) (fun _ => ?_)
  show zt l g (d + 1) M_X8_reads 0 [.ref 164, zJ] [] s (zKv K)
  refine z_aload_n (i := 0) dX8_reads_0 rfl rfl rfl ?_
  refine z_iconst (v := (-1 : Int32)) dX8_reads_1 (by decide) rfl ?_
  refine z_putI f_X8_338 i_164 rfl (Or.inl rfl) rfl rfl dX8_reads_2 rfl ?_
  refine z_aload_n (i := 0) dX8_reads_5 rfl rfl rfl ?_
  refine z_getR (q := 257) f_X8_92 i_164 rfl (r_164_37 hR) (by decide) dX8_reads_6 rfl ?_
  refine z_iconst (v := (1 : Int32)) dX8_reads_9 (by decide) rfl ?_
  refine z_iconst (v := (0 : Int32)) dX8_reads_10 (by decide) rfl ?_
  refine z_iast a_257 (by unfold vp_in; decide) dX8_reads_11 rfl ?_
  show zt l g (d + 1) M_X8_reads 12 [.ref 164, zJ] [] (zI (zI s 164 32 (-1 : Int32)) 257 1 (0 : Int32)) _
  refine z_aload_n (i := 0) dX8_reads_12 rfl rfl rfl ?_
  refine z_getR (q := 258) f_X8_95 i_164 rfl (r_164_38 hR) (by decide) dX8_reads_13 rfl ?_
  refine z_iconst (v := (1 : Int32)) dX8_reads_16 (by decide) rfl ?_
  refine z_iconst (v := (0 : Int32)) dX8_reads_17 (by decide) rfl ?_
  refine z_iast a_258 (by unfold vp_in; decide) dX8_reads_18 rfl ?_
  show zt l g (d + 1) M_X8_reads 19 [.ref 164, zJ] [] (zI (zI (zI s 164 32 (-1 : Int32)) 257 1 (0 : Int32)) 258 1 (0 : Int32)) _
  refine z_aload_n (i := 0) dX8_reads_19 rfl rfl rfl ?_
  refine z_getR (q := 259) f_X8_98 i_164 rfl (r_164_39 hR) (by decide) dX8_reads_20 rfl ?_
  refine z_iconst (v := (1 : Int32)) dX8_reads_23 (by decide) rfl ?_
  refine z_iconst (v := (0 : Int32)) dX8_reads_24 (by decide) rfl ?_
  refine z_zast a_259 (by unfold vp_in; decide) (by decide) dX8_reads_25 rfl ?_
  show zt l g (d + 1) M_X8_reads 26 [.ref 164, zJ] [] (zI (zI (zI (zI s 164 32 (-1 : Int32)) 257 1 (0 : Int32)) 258 1 (0 : Int32)) 259 1 (0 : Int32)) _
  refine z_aload_n (i := 0) dX8_reads_26 rfl rfl rfl ?_
  refine z_iconst (v := (0 : Int32)) dX8_reads_27 (by decide) rfl ?_
  refine z_putI f_X8_329 i_164 rfl (Or.inl rfl) rfl rfl dX8_reads_28 rfl ?_
  refine z_aload_n (i := 0) dX8_reads_31 rfl rfl rfl ?_
  refine z_callV k_X8_next m_X8_341 (zRec_of i_164) rfl h rfl (Nat.le_of_ble_eq_true rfl) dX8_reads_32 zy200 rfl ?_
  rintro v s1 ⟨rfl, hRs1, h⟩
  show zt l g (d + 1) M_X8_reads 35 [.ref 164, zJ] [] s1 _
  refine z_aload_n (i := 0) dX8_reads_35 rfl rfl rfl ?_
  refine z_getI (x := s1.1 164 30) rfl f_X8_332 i_164 rfl dX8_reads_36 rfl ?_
  refine z_aload_n (i := 0) dX8_reads_39 rfl rfl rfl ?_
  refine z_getI (x := s1.1 164 29) rfl f_X8_322 i_164 rfl dX8_reads_40 rfl ?_
  refine z_icmp_ne (pt := 55) dX8_reads_43 (by decide) rfl (fun c => ?_) (fun c => ?_)
  · have h := zif h c
    refine z_iconst (v := (1 : Int32)) dX8_reads_55 (by decide) rfl ?_
    refine z_istore_n (i := 1) dX8_reads_56 rfl (by decide) (zokd rfl) rfl ?_
    show zt l g (d + 1) M_X8_reads 57 [.ref 164, .int (1 : Int32)] [] s1 _
    exact h
  · have h := zit h c
    refine z_aload_n (i := 0) dX8_reads_46 rfl rfl rfl ?_
    refine z_aload_n (i := 0) dX8_reads_47 rfl rfl rfl ?_
    refine z_getI (x := s1.1 164 29) rfl f_X8_322 i_164 rfl dX8_reads_48 rfl ?_
    refine z_putI f_X8_338 i_164 rfl (Or.inl rfl) rfl rfl dX8_reads_51 rfl ?_
    exact z_ret none (Or.inl ⟨rfl, rfl, dX8_reads_54⟩) zN200 ⟨rfl, h⟩
set_option maxHeartbeats 4000000 in
set_option maxRecDepth 100000 in
theorem t_X8_reads_57 {l : Launch} {g : zG} {d : Nat} {s : zS} (hR : zRok s) {x1 : Int32} {K : zS → Prop} (h : (if x1 = 0 then K s else (if (s.1 164 29) ≤ (s.1 164 30) then K s else (zc l g d M_X8_line [.ref 164] s (zKz (fun b2 s1 => s1.2.2.1 = s.2.2.1 ∧ zt l g (d + 1) M_X8_reads 57 [.ref 164, .int (zb b2)] [] s1 (zKv K))))))) : zt l g (d + 1) M_X8_reads 57 [.ref 164, .int x1] [] s (zKv K) := by
  refine z_iload_n (i := 1) dX8_reads_57 rfl rfl rfl ?_
  refine z_if_eq (pt := 80) dX8_reads_58 (by decide) rfl (fun c => ?_) (fun c => ?_)
  · have h := zit h c
    exact z_ret none (Or.inl ⟨rfl, rfl, dX8_reads_80⟩) zN200 ⟨rfl, h⟩
  · have h := zif h c
    refine z_aload_n (i := 0) dX8_reads_61 rfl rfl rfl ?_
    refine z_getI (x := s.1 164 30) rfl f_X8_332 i_164 rfl dX8_reads_62 rfl ?_
    refine z_aload_n (i := 0) dX8_reads_65 rfl rfl rfl ?_
    refine z_getI (x := s.1 164 29) rfl f_X8_322 i_164 rfl dX8_reads_66 rfl ?_
    refine z_icmp_ge (pt := 80) dX8_reads_69 (by decide) rfl (fun c => ?_) (fun c => ?_)
    · have h := zit h c
      exact z_ret none (Or.inl ⟨rfl, rfl, dX8_reads_80⟩) zN200 ⟨rfl, h⟩
    · have h := zif h c
      refine z_aload_n (i := 0) dX8_reads_72 rfl rfl rfl ?_
      refine z_callV k_X8_line m_X8_396 (zRec_of i_164) rfl h rfl (Nat.le_of_ble_eq_true rfl) dX8_reads_73 zy200 rfl ?_
      rintro v s1 ⟨b2, rfl, hRs1, h⟩
      show zt l g (d + 1) M_X8_reads 76 [.ref 164, .int x1] [.int (zb b2)] s1 _
      refine z_istore_n (i := 1) dX8_reads_76 rfl (by decide) (zokd rfl) rfl ?_
      show zt l g (d + 1) M_X8_reads 77 [.ref 164, .int (zb b2)] [] s1 _
      refine z_goto (pn := 57) dX8_reads_77 (by decide) ?_
      exact h
theorem dX8_fault_0 : decode cX8_fault 0 = .ok (.aload_n 0, 1) := by decide +kernel
theorem dX8_fault_1 : decode cX8_fault 1 = .ok (.invokevirtual 399, 3) := by decide +kernel
theorem dX8_fault_4 : decode cX8_fault 4 = .ok (.aload_n 0, 1) := by decide +kernel
theorem dX8_fault_5 : decode cX8_fault 5 = .ok (.getfield 338, 3) := by decide +kernel
theorem dX8_fault_8 : decode cX8_fault 8 = .ok (.ireturn, 1) := by decide +kernel
set_option maxHeartbeats 4000000 in
set_option maxRecDepth 100000 in
theorem t_X8_fault {l : Launch} {g : zG} {d : Nat} {s : zS} (hR : zRok s)  {K : Int32 → zS → Prop} (h : (zc l g d M_X8_reads [.ref 164] s (zKv (fun s1 => s1.2.2.1 = s.2.2.1 ∧ K (s1.1 164 32) s1)))) : zc l g (d + 1) M_X8_fault [.ref 164] s (zKi K) := by
  refine zCall_of k_X8_fault (Nat.le_of_ble_eq_true rfl) (Nat.le_refl _) (fun _ => ?_)
  show zt l g (d + 1) M_X8_fault 0 [.ref 164] [] s (zKi K)
  refine z_aload_n (i := 0) dX8_fault_0 rfl rfl rfl ?_
  refine z_callV k_X8_reads m_X8_399 (zRec_of i_164) rfl h rfl (Nat.le_of_ble_eq_true rfl) dX8_fault_1 zy200 rfl ?_
  rintro v s1 ⟨rfl, hRs1, h⟩
  show zt l g (d + 1) M_X8_fault 4 [.ref 164] [] s1 _
  refine z_aload_n (i := 0) dX8_fault_4 rfl rfl rfl ?_
  refine z_getI (x := s1.1 164 32) rfl f_X8_338 i_164 rfl dX8_fault_5 rfl ?_
  exact z_ret (some (.int (s1.1 164 32))) (Or.inr (Or.inl ⟨_, _, rfl, rfl, rfl, dX8_fault_8⟩)) zN200 ⟨_, rfl, h⟩
theorem dX8_rules_0 : decode cX8_rules 0 = .ok (.aload_n 0, 1) := by decide +kernel
theorem dX8_rules_1 : decode cX8_rules 1 = .ok (.invokevirtual 399, 3) := by decide +kernel
theorem dX8_rules_4 : decode cX8_rules 4 = .ok (.aload_n 0, 1) := by decide +kernel
theorem dX8_rules_5 : decode cX8_rules 5 = .ok (.getfield 338, 3) := by decide +kernel
theorem dX8_rules_8 : decode cX8_rules 8 = .ok (.iconst (-1), 1) := by decide +kernel
theorem dX8_rules_9 : decode cX8_rules 9 = .ok (.if_icmp .eq 5, 3) := by decide +kernel
theorem dX8_rules_12 : decode cX8_rules 12 = .ok (.iconst (-1), 1) := by decide +kernel
theorem dX8_rules_13 : decode cX8_rules 13 = .ok (.ireturn, 1) := by decide +kernel
theorem dX8_rules_14 : decode cX8_rules 14 = .ok (.aload_n 0, 1) := by decide +kernel
theorem dX8_rules_15 : decode cX8_rules 15 = .ok (.getfield 92, 3) := by decide +kernel
theorem dX8_rules_18 : decode cX8_rules 18 = .ok (.iconst 0, 1) := by decide +kernel
theorem dX8_rules_19 : decode cX8_rules 19 = .ok (.aload_n 0, 1) := by decide +kernel
theorem dX8_rules_20 : decode cX8_rules 20 = .ok (.getfield 92, 3) := by decide +kernel
theorem dX8_rules_23 : decode cX8_rules 23 = .ok (.iconst 1, 1) := by decide +kernel
theorem dX8_rules_24 : decode cX8_rules 24 = .ok (.iaload, 1) := by decide +kernel
theorem dX8_rules_25 : decode cX8_rules 25 = .ok (.iastore, 1) := by decide +kernel
theorem dX8_rules_26 : decode cX8_rules 26 = .ok (.aload_n 0, 1) := by decide +kernel
theorem dX8_rules_27 : decode cX8_rules 27 = .ok (.getfield 98, 3) := by decide +kernel
theorem dX8_rules_30 : decode cX8_rules 30 = .ok (.iconst 0, 1) := by decide +kernel
theorem dX8_rules_31 : decode cX8_rules 31 = .ok (.aload_n 0, 1) := by decide +kernel
theorem dX8_rules_32 : decode cX8_rules 32 = .ok (.getfield 98, 3) := by decide +kernel
theorem dX8_rules_35 : decode cX8_rules 35 = .ok (.iconst 1, 1) := by decide +kernel
theorem dX8_rules_36 : decode cX8_rules 36 = .ok (.baload, 1) := by decide +kernel
theorem dX8_rules_37 : decode cX8_rules 37 = .ok (.bastore, 1) := by decide +kernel
theorem dX8_rules_38 : decode cX8_rules 38 = .ok (.iconst 0, 1) := by decide +kernel
theorem dX8_rules_39 : decode cX8_rules 39 = .ok (.istore_n 1, 1) := by decide +kernel
theorem dX8_rules_40 : decode cX8_rules 40 = .ok (.iload_n 1, 1) := by decide +kernel
theorem dX8_rules_41 : decode cX8_rules 41 = .ok (.aload_n 0, 1) := by decide +kernel
theorem dX8_rules_42 : decode cX8_rules 42 = .ok (.getfield 95, 3) := by decide +kernel
theorem dX8_rules_45 : decode cX8_rules 45 = .ok (.iconst 1, 1) := by decide +kernel
theorem dX8_rules_46 : decode cX8_rules 46 = .ok (.iaload, 1) := by decide +kernel
theorem dX8_rules_47 : decode cX8_rules 47 = .ok (.if_icmp .ge 25, 3) := by decide +kernel
theorem dX8_rules_50 : decode cX8_rules 50 = .ok (.aload_n 0, 1) := by decide +kernel
theorem dX8_rules_51 : decode cX8_rules 51 = .ok (.getfield 80, 3) := by decide +kernel
theorem dX8_rules_54 : decode cX8_rules 54 = .ok (.iconst 0, 1) := by decide +kernel
theorem dX8_rules_55 : decode cX8_rules 55 = .ok (.aaload, 1) := by decide +kernel
theorem dX8_rules_56 : decode cX8_rules 56 = .ok (.iload_n 1, 1) := by decide +kernel
theorem dX8_rules_57 : decode cX8_rules 57 = .ok (.aload_n 0, 1) := by decide +kernel
theorem dX8_rules_58 : decode cX8_rules 58 = .ok (.getfield 80, 3) := by decide +kernel
theorem dX8_rules_61 : decode cX8_rules 61 = .ok (.iconst 1, 1) := by decide +kernel
theorem dX8_rules_62 : decode cX8_rules 62 = .ok (.aaload, 1) := by decide +kernel
theorem dX8_rules_63 : decode cX8_rules 63 = .ok (.iload_n 1, 1) := by decide +kernel
theorem dX8_rules_64 : decode cX8_rules 64 = .ok (.iaload, 1) := by decide +kernel
theorem dX8_rules_65 : decode cX8_rules 65 = .ok (.iastore, 1) := by decide +kernel
theorem dX8_rules_66 : decode cX8_rules 66 = .ok (.iinc 1 1, 3) := by decide +kernel
theorem dX8_rules_69 : decode cX8_rules 69 = .ok (.goto (-29), 3) := by decide +kernel
theorem dX8_rules_72 : decode cX8_rules 72 = .ok (.iconst 0, 1) := by decide +kernel
theorem dX8_rules_73 : decode cX8_rules 73 = .ok (.istore_n 1, 1) := by decide +kernel
theorem dX8_rules_74 : decode cX8_rules 74 = .ok (.iload_n 1, 1) := by decide +kernel
theorem dX8_rules_75 : decode cX8_rules 75 = .ok (.bipush 12, 2) := by decide +kernel
theorem dX8_rules_77 : decode cX8_rules 77 = .ok (.if_icmp .gt 57, 3) := by decide +kernel
theorem dX8_rules_80 : decode cX8_rules 80 = .ok (.aload_n 0, 1) := by decide +kernel
theorem dX8_rules_81 : decode cX8_rules 81 = .ok (.getfield 83, 3) := by decide +kernel
theorem dX8_rules_84 : decode cX8_rules 84 = .ok (.iconst 0, 1) := by decide +kernel
theorem dX8_rules_85 : decode cX8_rules 85 = .ok (.aaload, 1) := by decide +kernel
theorem dX8_rules_86 : decode cX8_rules 86 = .ok (.iload_n 1, 1) := by decide +kernel
theorem dX8_rules_87 : decode cX8_rules 87 = .ok (.aload_n 0, 1) := by decide +kernel
theorem dX8_rules_88 : decode cX8_rules 88 = .ok (.getfield 83, 3) := by decide +kernel
theorem dX8_rules_91 : decode cX8_rules 91 = .ok (.iconst 1, 1) := by decide +kernel
theorem dX8_rules_92 : decode cX8_rules 92 = .ok (.aaload, 1) := by decide +kernel
theorem dX8_rules_93 : decode cX8_rules 93 = .ok (.iload_n 1, 1) := by decide +kernel
theorem dX8_rules_94 : decode cX8_rules 94 = .ok (.iaload, 1) := by decide +kernel
theorem dX8_rules_95 : decode cX8_rules 95 = .ok (.iastore, 1) := by decide +kernel
theorem dX8_rules_96 : decode cX8_rules 96 = .ok (.aload_n 0, 1) := by decide +kernel
theorem dX8_rules_97 : decode cX8_rules 97 = .ok (.getfield 86, 3) := by decide +kernel
theorem dX8_rules_100 : decode cX8_rules 100 = .ok (.iconst 0, 1) := by decide +kernel
theorem dX8_rules_101 : decode cX8_rules 101 = .ok (.aaload, 1) := by decide +kernel
theorem dX8_rules_102 : decode cX8_rules 102 = .ok (.iload_n 1, 1) := by decide +kernel
theorem dX8_rules_103 : decode cX8_rules 103 = .ok (.aload_n 0, 1) := by decide +kernel
theorem dX8_rules_104 : decode cX8_rules 104 = .ok (.getfield 86, 3) := by decide +kernel
theorem dX8_rules_107 : decode cX8_rules 107 = .ok (.iconst 1, 1) := by decide +kernel
theorem dX8_rules_108 : decode cX8_rules 108 = .ok (.aaload, 1) := by decide +kernel
theorem dX8_rules_109 : decode cX8_rules 109 = .ok (.iload_n 1, 1) := by decide +kernel
theorem dX8_rules_110 : decode cX8_rules 110 = .ok (.iaload, 1) := by decide +kernel
theorem dX8_rules_111 : decode cX8_rules 111 = .ok (.iastore, 1) := by decide +kernel
theorem dX8_rules_112 : decode cX8_rules 112 = .ok (.aload_n 0, 1) := by decide +kernel
theorem dX8_rules_113 : decode cX8_rules 113 = .ok (.getfield 89, 3) := by decide +kernel
theorem dX8_rules_116 : decode cX8_rules 116 = .ok (.iconst 0, 1) := by decide +kernel
theorem dX8_rules_117 : decode cX8_rules 117 = .ok (.aaload, 1) := by decide +kernel
theorem dX8_rules_118 : decode cX8_rules 118 = .ok (.iload_n 1, 1) := by decide +kernel
theorem dX8_rules_119 : decode cX8_rules 119 = .ok (.aload_n 0, 1) := by decide +kernel
theorem dX8_rules_120 : decode cX8_rules 120 = .ok (.getfield 89, 3) := by decide +kernel
theorem dX8_rules_123 : decode cX8_rules 123 = .ok (.iconst 1, 1) := by decide +kernel
theorem dX8_rules_124 : decode cX8_rules 124 = .ok (.aaload, 1) := by decide +kernel
theorem dX8_rules_125 : decode cX8_rules 125 = .ok (.iload_n 1, 1) := by decide +kernel
theorem dX8_rules_126 : decode cX8_rules 126 = .ok (.iaload, 1) := by decide +kernel
theorem dX8_rules_127 : decode cX8_rules 127 = .ok (.iastore, 1) := by decide +kernel
theorem dX8_rules_128 : decode cX8_rules 128 = .ok (.iinc 1 1, 3) := by decide +kernel
theorem dX8_rules_131 : decode cX8_rules 131 = .ok (.goto (-57), 3) := by decide +kernel
theorem dX8_rules_134 : decode cX8_rules 134 = .ok (.aload_n 0, 1) := by decide +kernel
theorem dX8_rules_135 : decode cX8_rules 135 = .ok (.iconst 0, 1) := by decide +kernel
theorem dX8_rules_136 : decode cX8_rules 136 = .ok (.putfield 322, 3) := by decide +kernel
theorem dX8_rules_139 : decode cX8_rules 139 = .ok (.aload_n 0, 1) := by decide +kernel
theorem dX8_rules_140 : decode cX8_rules 140 = .ok (.getfield 92, 3) := by decide +kernel
theorem dX8_rules_143 : decode cX8_rules 143 = .ok (.iconst 0, 1) := by decide +kernel
theorem dX8_rules_144 : decode cX8_rules 144 = .ok (.iaload, 1) := by decide +kernel
theorem dX8_rules_145 : decode cX8_rules 145 = .ok (.ireturn, 1) := by decide +kernel
set_option maxHeartbeats 4000000 in
set_option maxRecDepth 100000 in
theorem t_X8_rules {l : Launch} {g : zG} {d : Nat} {s : zS} (hR : zRok s)  {K : Int32 → zS → Prop} (h : (zc l g d M_X8_reads [.ref 164] s (zKv (fun s1 => s1.2.2.1 = s.2.2.1 ∧ (if (s1.1 164 32) = (-1 : Int32) then (narrow .boolean (.int (s1.1 259 1)) = .int (s1.1 259 1) ∧ zt l g (d + 1) M_X8_rules 40 [.ref 164, .int (0 : Int32)] [] (zI (zI s1 257 0 (s1.1 257 1)) 259 0 (s1.1 259 1)) (zKi K)) else K (-1 : Int32) s1))))) : zc l g (d + 1) M_X8_rules [.ref 164] s (zKi K) := by
  refine zCall_of k_X8_rules (Nat.le_of_ble_eq_true rfl) (Nat.le_refl _) (fun _ => ?_)
  show zt l g (d + 1) M_X8_rules 0 [.ref 164, zJ] [] s (zKi K)
  refine z_aload_n (i := 0) dX8_rules_0 rfl rfl rfl ?_
  refine z_callV k_X8_reads m_X8_399 (zRec_of i_164) rfl h rfl (Nat.le_of_ble_eq_true rfl) dX8_rules_1 zy200 rfl ?_
  rintro v s1 ⟨rfl, hRs1, h⟩
  show zt l g (d + 1) M_X8_rules 4 [.ref 164, zJ] [] s1 _
  refine z_aload_n (i := 0) dX8_rules_4 rfl rfl rfl ?_
  refine z_getI (x := s1.1 164 32) rfl f_X8_338 i_164 rfl dX8_rules_5 rfl ?_
  refine z_iconst (v := (-1 : Int32)) dX8_rules_8 (by decide) rfl ?_
  refine z_icmp_eq (pt := 14) dX8_rules_9 (by decide) rfl (fun c => ?_) (fun c => ?_)
  · have h := zit h c
    refine z_aload_n (i := 0) dX8_rules_14 rfl rfl rfl ?_
    refine z_getR (q := 257) f_X8_92 i_164 rfl (r_164_37 (zRok_of hRs1 hR)) (by decide) dX8_rules_15 rfl ?_
    refine z_iconst (v := (0 : Int32)) dX8_rules_18 (by decide) rfl ?_
    refine z_aload_n (i := 0) dX8_rules_19 rfl rfl rfl ?_
    refine z_getR (q := 257) f_X8_92 i_164 rfl (r_164_37 (zRok_of hRs1 hR)) (by decide) dX8_rules_20 rfl ?_
    refine z_iconst (v := (1 : Int32)) dX8_rules_23 (by decide) rfl ?_
    refine z_iald (x := s1.1 257 1) rfl a_257 (by unfold vp_in; decide) dX8_rules_24 rfl ?_
    refine z_iast a_257 (by unfold vp_in; decide) dX8_rules_25 rfl ?_
    show zt l g (d + 1) M_X8_rules 26 [.ref 164, zJ] [] (zI s1 257 0 (s1.1 257 1)) _
    refine z_aload_n (i := 0) dX8_rules_26 rfl rfl rfl ?_
    refine z_getR (q := 259) f_X8_98 i_164 rfl (r_164_39 (zRok_of hRs1 hR)) (by decide) dX8_rules_27 rfl ?_
    refine z_iconst (v := (0 : Int32)) dX8_rules_30 (by decide) rfl ?_
    refine z_aload_n (i := 0) dX8_rules_31 rfl rfl rfl ?_
    refine z_getR (q := 259) f_X8_98 i_164 rfl (r_164_39 (zRok_of hRs1 hR)) (by decide) dX8_rules_32 rfl ?_
    refine z_iconst (v := (1 : Int32)) dX8_rules_35 (by decide) rfl ?_
    refine z_zald (x := s1.1 259 1) (zI_k (by decide)) a_259 (by unfold vp_in; decide) dX8_rules_36 rfl ?_
    obtain ⟨a2, h⟩ := h
    refine z_zast a_259 (by unfold vp_in; decide) a2 dX8_rules_37 rfl ?_
    show zt l g (d + 1) M_X8_rules 38 [.ref 164, zJ] [] (zI (zI s1 257 0 (s1.1 257 1)) 259 0 (s1.1 259 1)) _
    refine z_iconst (v := (0 : Int32)) dX8_rules_38 (by decide) rfl ?_
    refine z_istore_n (i := 1) dX8_rules_39 rfl (by decide) (zokd rfl) rfl ?_
    show zt l g (d + 1) M_X8_rules 40 [.ref 164, .int (0 : Int32)] [] (zI (zI s1 257 0 (s1.1 257 1)) 259 0 (s1.1 259 1)) _
    exact h
  · have h := zif h c
    refine z_iconst (v := (-1 : Int32)) dX8_rules_12 (by decide) rfl ?_
    exact z_ret (some (.int (-1 : Int32))) (Or.inr (Or.inl ⟨_, _, rfl, rfl, rfl, dX8_rules_13⟩)) zN200 ⟨_, rfl, h⟩
set_option maxHeartbeats 4000000 in
set_option maxRecDepth 100000 in
theorem t_X8_rules_40 {l : Launch} {g : zG} {d : Nat} {s : zS} (hR : zRok s) {x1 : Int32} {K : Int32 → zS → Prop} (h : (if (s.1 258 1) ≤ x1 then zt l g (d + 1) M_X8_rules 74 [.ref 164, .int (0 : Int32)] [] s (zKi K) else (vp_in x1 420 ∧ (vp_in x1 420 ∧ zt l g (d + 1) M_X8_rules 40 [.ref 164, .int (x1 + (1 : Int32))] [] (zI s 246 x1.toNatClampNeg (s.1 247 x1.toNatClampNeg)) (zKi K))))) : zt l g (d + 1) M_X8_rules 40 [.ref 164, .int x1] [] s (zKi K) := by
  refine z_iload_n (i := 1) dX8_rules_40 rfl rfl rfl ?_
  refine z_aload_n (i := 0) dX8_rules_41 rfl rfl rfl ?_
  refine z_getR (q := 258) f_X8_95 i_164 rfl (r_164_38 hR) (by decide) dX8_rules_42 rfl ?_
  refine z_iconst (v := (1 : Int32)) dX8_rules_45 (by decide) rfl ?_
  refine z_iald (x := s.1 258 1) rfl a_258 (by unfold vp_in; decide) dX8_rules_46 rfl ?_
  refine z_icmp_ge (pt := 72) dX8_rules_47 (by decide) rfl (fun c => ?_) (fun c => ?_)
  · have h := zit h c
    refine z_iconst (v := (0 : Int32)) dX8_rules_72 (by decide) rfl ?_
    refine z_istore_n (i := 1) dX8_rules_73 rfl (by decide) (zokd rfl) rfl ?_
    show zt l g (d + 1) M_X8_rules 74 [.ref 164, .int (0 : Int32)] [] s _
    exact h
  · have h := zif h c
    refine z_aload_n (i := 0) dX8_rules_50 rfl rfl rfl ?_
    refine z_getR (q := 245) f_X8_80 i_164 rfl (r_164_33 hR) (by decide) dX8_rules_51 rfl ?_
    refine z_iconst (v := (0 : Int32)) dX8_rules_54 (by decide) rfl ?_
    refine z_aald (q := 246) (by decide) a_245 (by unfold vp_in; decide) (by have := hR.1 245 0 (by decide); exact this) (by decide) dX8_rules_55 rfl ?_
    refine z_iload_n (i := 1) dX8_rules_56 rfl rfl rfl ?_
    refine z_aload_n (i := 0) dX8_rules_57 rfl rfl rfl ?_
    refine z_getR (q := 245) f_X8_80 i_164 rfl (r_164_33 hR) (by decide) dX8_rules_58 rfl ?_
    refine z_iconst (v := (1 : Int32)) dX8_rules_61 (by decide) rfl ?_
    refine z_aald (q := 247) (by decide) a_245 (by unfold vp_in; decide) (by have := hR.1 245 1 (by decide); exact this) (by decide) dX8_rules_62 rfl ?_
    refine z_iload_n (i := 1) dX8_rules_63 rfl rfl rfl ?_
    obtain ⟨a1, h⟩ := h
    have wa1 := vin a1
    refine z_iald (x := s.1 247 x1.toNatClampNeg) rfl a_247 a1 dX8_rules_64 rfl ?_
    obtain ⟨a2, h⟩ := h
    have wa2 := vin a2
    refine z_iast a_246 a2 dX8_rules_65 rfl ?_
    show zt l g (d + 1) M_X8_rules 66 [.ref 164, .int x1] [] (zI s 246 x1.toNatClampNeg (s.1 247 x1.toNatClampNeg)) _
    refine z_iinc (v := x1 + (1 : Int32)) dX8_rules_66 rfl rfl (by decide) (zokd rfl) rfl ?_
    show zt l g (d + 1) M_X8_rules 69 [.ref 164, .int (x1 + (1 : Int32))] [] (zI s 246 x1.toNatClampNeg (s.1 247 x1.toNatClampNeg)) _
    refine z_goto (pn := 40) dX8_rules_69 (by decide) ?_
    exact h
set_option maxHeartbeats 4000000 in
set_option maxRecDepth 100000 in
theorem t_X8_rules_74 {l : Launch} {g : zG} {d : Nat} {s : zS} (hR : zRok s) {x1 : Int32} {K : Int32 → zS → Prop} (h : (if (12 : Int32) < x1 then K (s.1 257 0) (zI s 164 29 (0 : Int32)) else (vp_in x1 13 ∧ (vp_in x1 13 ∧ (vp_in x1 13 ∧ (vp_in x1 13 ∧ (vp_in x1 13 ∧ (vp_in x1 13 ∧ zt l g (d + 1) M_X8_rules 74 [.ref 164, .int (x1 + (1 : Int32))] [] (zI (zI (zI s 249 x1.toNatClampNeg (s.1 250 x1.toNatClampNeg)) 252 x1.toNatClampNeg (s.1 253 x1.toNatClampNeg)) 255 x1.toNatClampNeg (s.1 256 x1.toNatClampNeg)) (zKi K))))))))) : zt l g (d + 1) M_X8_rules 74 [.ref 164, .int x1] [] s (zKi K) := by
  refine z_iload_n (i := 1) dX8_rules_74 rfl rfl rfl ?_
  refine z_bipush (v := (12 : Int32)) dX8_rules_75 (by decide) rfl ?_
  refine z_icmp_gt (pt := 134) dX8_rules_77 (by decide) rfl (fun c => ?_) (fun c => ?_)
  · have h := zit h c
    refine z_aload_n (i := 0) dX8_rules_134 rfl rfl rfl ?_
    refine z_iconst (v := (0 : Int32)) dX8_rules_135 (by decide) rfl ?_
    refine z_putI f_X8_322 i_164 rfl (Or.inl rfl) rfl rfl dX8_rules_136 rfl ?_
    refine z_aload_n (i := 0) dX8_rules_139 rfl rfl rfl ?_
    refine z_getR (q := 257) f_X8_92 i_164 rfl (r_164_37 hR) (by decide) dX8_rules_140 rfl ?_
    refine z_iconst (v := (0 : Int32)) dX8_rules_143 (by decide) rfl ?_
    refine z_iald (x := s.1 257 0) (zI_k (by decide)) a_257 (by unfold vp_in; decide) dX8_rules_144 rfl ?_
    exact z_ret (some (.int (s.1 257 0))) (Or.inr (Or.inl ⟨_, _, rfl, rfl, rfl, dX8_rules_145⟩)) zN200 ⟨_, rfl, h⟩
  · have h := zif h c
    refine z_aload_n (i := 0) dX8_rules_80 rfl rfl rfl ?_
    refine z_getR (q := 248) f_X8_83 i_164 rfl (r_164_34 hR) (by decide) dX8_rules_81 rfl ?_
    refine z_iconst (v := (0 : Int32)) dX8_rules_84 (by decide) rfl ?_
    refine z_aald (q := 249) (by decide) a_248 (by unfold vp_in; decide) (by have := hR.1 248 0 (by decide); exact this) (by decide) dX8_rules_85 rfl ?_
    refine z_iload_n (i := 1) dX8_rules_86 rfl rfl rfl ?_
    refine z_aload_n (i := 0) dX8_rules_87 rfl rfl rfl ?_
    refine z_getR (q := 248) f_X8_83 i_164 rfl (r_164_34 hR) (by decide) dX8_rules_88 rfl ?_
    refine z_iconst (v := (1 : Int32)) dX8_rules_91 (by decide) rfl ?_
    refine z_aald (q := 250) (by decide) a_248 (by unfold vp_in; decide) (by have := hR.1 248 1 (by decide); exact this) (by decide) dX8_rules_92 rfl ?_
    refine z_iload_n (i := 1) dX8_rules_93 rfl rfl rfl ?_
    obtain ⟨a1, h⟩ := h
    have wa1 := vin a1
    refine z_iald (x := s.1 250 x1.toNatClampNeg) rfl a_250 a1 dX8_rules_94 rfl ?_
    obtain ⟨a2, h⟩ := h
    have wa2 := vin a2
    refine z_iast a_249 a2 dX8_rules_95 rfl ?_
    show zt l g (d + 1) M_X8_rules 96 [.ref 164, .int x1] [] (zI s 249 x1.toNatClampNeg (s.1 250 x1.toNatClampNeg)) _
    refine z_aload_n (i := 0) dX8_rules_96 rfl rfl rfl ?_
    refine z_getR (q := 251) f_X8_86 i_164 rfl (r_164_35 hR) (by decide) dX8_rules_97 rfl ?_
    refine z_iconst (v := (0 : Int32)) dX8_rules_100 (by decide) rfl ?_
    refine z_aald (q := 252) (by decide) a_251 (by unfold vp_in; decide) (by have := hR.1 251 0 (by decide); exact this) (by decide) dX8_rules_101 rfl ?_
    refine z_iload_n (i := 1) dX8_rules_102 rfl rfl rfl ?_
    refine z_aload_n (i := 0) dX8_rules_103 rfl rfl rfl ?_
    refine z_getR (q := 251) f_X8_86 i_164 rfl (r_164_35 hR) (by decide) dX8_rules_104 rfl ?_
    refine z_iconst (v := (1 : Int32)) dX8_rules_107 (by decide) rfl ?_
    refine z_aald (q := 253) (by decide) a_251 (by unfold vp_in; decide) (by have := hR.1 251 1 (by decide); exact this) (by decide) dX8_rules_108 rfl ?_
    refine z_iload_n (i := 1) dX8_rules_109 rfl rfl rfl ?_
    obtain ⟨a3, h⟩ := h
    have wa3 := vin a3
    refine z_iald (x := s.1 253 x1.toNatClampNeg) (zI_o (by decide)) a_253 a3 dX8_rules_110 rfl ?_
    obtain ⟨a4, h⟩ := h
    have wa4 := vin a4
    refine z_iast a_252 a4 dX8_rules_111 rfl ?_
    show zt l g (d + 1) M_X8_rules 112 [.ref 164, .int x1] [] (zI (zI s 249 x1.toNatClampNeg (s.1 250 x1.toNatClampNeg)) 252 x1.toNatClampNeg (s.1 253 x1.toNatClampNeg)) _
    refine z_aload_n (i := 0) dX8_rules_112 rfl rfl rfl ?_
    refine z_getR (q := 254) f_X8_89 i_164 rfl (r_164_36 hR) (by decide) dX8_rules_113 rfl ?_
    refine z_iconst (v := (0 : Int32)) dX8_rules_116 (by decide) rfl ?_
    refine z_aald (q := 255) (by decide) a_254 (by unfold vp_in; decide) (by have := hR.1 254 0 (by decide); exact this) (by decide) dX8_rules_117 rfl ?_
    refine z_iload_n (i := 1) dX8_rules_118 rfl rfl rfl ?_
    refine z_aload_n (i := 0) dX8_rules_119 rfl rfl rfl ?_
    refine z_getR (q := 254) f_X8_89 i_164 rfl (r_164_36 hR) (by decide) dX8_rules_120 rfl ?_
    refine z_iconst (v := (1 : Int32)) dX8_rules_123 (by decide) rfl ?_
    refine z_aald (q := 256) (by decide) a_254 (by unfold vp_in; decide) (by have := hR.1 254 1 (by decide); exact this) (by decide) dX8_rules_124 rfl ?_
    refine z_iload_n (i := 1) dX8_rules_125 rfl rfl rfl ?_
    obtain ⟨a5, h⟩ := h
    have wa5 := vin a5
    refine z_iald (x := s.1 256 x1.toNatClampNeg) ((zI_o (by decide)).trans (zI_o (by decide))) a_256 a5 dX8_rules_126 rfl ?_
    obtain ⟨a6, h⟩ := h
    have wa6 := vin a6
    refine z_iast a_255 a6 dX8_rules_127 rfl ?_
    show zt l g (d + 1) M_X8_rules 128 [.ref 164, .int x1] [] (zI (zI (zI s 249 x1.toNatClampNeg (s.1 250 x1.toNatClampNeg)) 252 x1.toNatClampNeg (s.1 253 x1.toNatClampNeg)) 255 x1.toNatClampNeg (s.1 256 x1.toNatClampNeg)) _
    refine z_iinc (v := x1 + (1 : Int32)) dX8_rules_128 rfl rfl (by decide) (zokd rfl) rfl ?_
    show zt l g (d + 1) M_X8_rules 131 [.ref 164, .int (x1 + (1 : Int32))] [] (zI (zI (zI s 249 x1.toNatClampNeg (s.1 250 x1.toNatClampNeg)) 252 x1.toNatClampNeg (s.1 253 x1.toNatClampNeg)) 255 x1.toNatClampNeg (s.1 256 x1.toNatClampNeg)) _
    refine z_goto (pn := 74) dX8_rules_131 (by decide) ?_
    exact h
theorem dX8_brought_0 : decode cX8_brought 0 = .ok (.ldc2_w 402, 3) := by decide +kernel
theorem dX8_brought_3 : decode cX8_brought 3 = .ok (.ldc2_w 404, 3) := by decide +kernel
theorem dX8_brought_6 : decode cX8_brought 6 = .ok (.lload_n 0, 1) := by decide +kernel
theorem dX8_brought_7 : decode cX8_brought 7 = .ok (.invokestatic 406, 3) := by decide +kernel
theorem dX8_brought_10 : decode cX8_brought 10 = .ok (.invokestatic 409, 3) := by decide +kernel
theorem dX8_brought_13 : decode cX8_brought 13 = .ok (.l2i, 1) := by decide +kernel
theorem dX8_brought_14 : decode cX8_brought 14 = .ok (.ireturn, 1) := by decide +kernel
set_option maxHeartbeats 4000000 in
set_option maxRecDepth 100000 in
theorem t_X8_brought {l : Launch} {g : zG} {d : Nat} {s : zS} (hR : zRok s) {p0 : Int64} {K : Int32 → zS → Prop} (h : K ((zmaxL (-1000000 : Int64) (zminL (1000000 : Int64) p0)).toInt32) s) : zc l g (d + 1) M_X8_brought [.long p0] s (zKi K) := by
  refine zCall_of k_X8_brought (Nat.le_of_ble_eq_true rfl) (Nat.le_refl _) (fun _ => ?_)
  show zt l g (d + 1) M_X8_brought 0 [.long p0, zJ] [] s (zKi K)
  refine z_ldc2 (v := (-1000000 : Int64)) q_X8_402 dX8_brought_0 rfl ?_
  refine z_ldc2 (v := (1000000 : Int64)) q_X8_404 dX8_brought_3 rfl ?_
  refine z_lload_n (i := 0) dX8_brought_6 rfl rfl rfl ?_
  refine z_mminL m_X8_406 dX8_brought_7 (Nat.le_of_ble_eq_true rfl) rfl ?_
  refine z_mmaxL m_X8_409 dX8_brought_10 (Nat.le_of_ble_eq_true rfl) rfl ?_
  refine z_l2i dX8_brought_13 rfl ?_
  exact z_ret (some (.int ((zmaxL (-1000000 : Int64) (zminL (1000000 : Int64) p0)).toInt32))) (Or.inr (Or.inl ⟨_, _, rfl, rfl, rfl, dX8_brought_14⟩)) zN200 ⟨_, rfl, h⟩
theorem dX8_worked_0 : decode cX8_worked 0 = .ok (.iconst 0, 1) := by decide +kernel
theorem dX8_worked_1 : decode cX8_worked 1 = .ok (.istore_n 2, 1) := by decide +kernel
theorem dX8_worked_2 : decode cX8_worked 2 = .ok (.iconst 0, 1) := by decide +kernel
theorem dX8_worked_3 : decode cX8_worked 3 = .ok (.istore_n 3, 1) := by decide +kernel
theorem dX8_worked_4 : decode cX8_worked 4 = .ok (.iload_n 3, 1) := by decide +kernel
theorem dX8_worked_5 : decode cX8_worked 5 = .ok (.aload_n 0, 1) := by decide +kernel
theorem dX8_worked_6 : decode cX8_worked 6 = .ok (.getfield 86, 3) := by decide +kernel
theorem dX8_worked_9 : decode cX8_worked 9 = .ok (.iconst 0, 1) := by decide +kernel
theorem dX8_worked_10 : decode cX8_worked 10 = .ok (.aaload, 1) := by decide +kernel
theorem dX8_worked_11 : decode cX8_worked 11 = .ok (.iload_n 1, 1) := by decide +kernel
theorem dX8_worked_12 : decode cX8_worked 12 = .ok (.iaload, 1) := by decide +kernel
theorem dX8_worked_13 : decode cX8_worked 13 = .ok (.if_icmp .ge 225, 3) := by decide +kernel
theorem dX8_worked_16 : decode cX8_worked 16 = .ok (.aload_n 0, 1) := by decide +kernel
theorem dX8_worked_17 : decode cX8_worked 17 = .ok (.getfield 80, 3) := by decide +kernel
theorem dX8_worked_20 : decode cX8_worked 20 = .ok (.iconst 0, 1) := by decide +kernel
theorem dX8_worked_21 : decode cX8_worked 21 = .ok (.aaload, 1) := by decide +kernel
theorem dX8_worked_22 : decode cX8_worked 22 = .ok (.aload_n 0, 1) := by decide +kernel
theorem dX8_worked_23 : decode cX8_worked 23 = .ok (.getfield 83, 3) := by decide +kernel
theorem dX8_worked_26 : decode cX8_worked 26 = .ok (.iconst 0, 1) := by decide +kernel
theorem dX8_worked_27 : decode cX8_worked 27 = .ok (.aaload, 1) := by decide +kernel
theorem dX8_worked_28 : decode cX8_worked 28 = .ok (.iload_n 1, 1) := by decide +kernel
theorem dX8_worked_29 : decode cX8_worked 29 = .ok (.iaload, 1) := by decide +kernel
theorem dX8_worked_30 : decode cX8_worked 30 = .ok (.iload_n 3, 1) := by decide +kernel
theorem dX8_worked_31 : decode cX8_worked 31 = .ok (.iadd, 1) := by decide +kernel
theorem dX8_worked_32 : decode cX8_worked 32 = .ok (.iaload, 1) := by decide +kernel
theorem dX8_worked_33 : decode cX8_worked 33 = .ok (.istore 4, 2) := by decide +kernel
theorem dX8_worked_35 : decode cX8_worked 35 = .ok (.iload 4, 2) := by decide +kernel
theorem dX8_worked_37 : decode cX8_worked 37 = .ok (.sipush 20001, 3) := by decide +kernel
theorem dX8_worked_40 : decode cX8_worked 40 = .ok (.if_icmp .ge 39, 3) := by decide +kernel
theorem dX8_worked_43 : decode cX8_worked 43 = .ok (.aload_n 0, 1) := by decide +kernel
theorem dX8_worked_44 : decode cX8_worked 44 = .ok (.getfield 102, 3) := by decide +kernel
theorem dX8_worked_47 : decode cX8_worked 47 = .ok (.iload_n 2, 1) := by decide +kernel
theorem dX8_worked_48 : decode cX8_worked 48 = .ok (.iload 4, 2) := by decide +kernel
theorem dX8_worked_50 : decode cX8_worked 50 = .ok (.sipush 10000, 3) := by decide +kernel
theorem dX8_worked_53 : decode cX8_worked 53 = .ok (.if_icmp .ge 8, 3) := by decide +kernel
theorem dX8_worked_56 : decode cX8_worked 56 = .ok (.iload 4, 2) := by decide +kernel
theorem dX8_worked_58 : decode cX8_worked 58 = .ok (.goto 14, 3) := by decide +kernel
theorem dX8_worked_61 : decode cX8_worked 61 = .ok (.aload_n 0, 1) := by decide +kernel
theorem dX8_worked_62 : decode cX8_worked 62 = .ok (.getfield 105, 3) := by decide +kernel
theorem dX8_worked_65 : decode cX8_worked 65 = .ok (.iload 4, 2) := by decide +kernel
theorem dX8_worked_67 : decode cX8_worked 67 = .ok (.sipush 10000, 3) := by decide +kernel
theorem dX8_worked_70 : decode cX8_worked 70 = .ok (.isub, 1) := by decide +kernel
theorem dX8_worked_71 : decode cX8_worked 71 = .ok (.iaload, 1) := by decide +kernel
theorem dX8_worked_72 : decode cX8_worked 72 = .ok (.iastore, 1) := by decide +kernel
theorem dX8_worked_73 : decode cX8_worked 73 = .ok (.iinc 2 1, 3) := by decide +kernel
theorem dX8_worked_76 : decode cX8_worked 76 = .ok (.goto 156, 3) := by decide +kernel
theorem dX8_worked_79 : decode cX8_worked 79 = .ok (.iinc 2 (-1), 3) := by decide +kernel
theorem dX8_worked_82 : decode cX8_worked 82 = .ok (.aload_n 0, 1) := by decide +kernel
theorem dX8_worked_83 : decode cX8_worked 83 = .ok (.getfield 102, 3) := by decide +kernel
theorem dX8_worked_86 : decode cX8_worked 86 = .ok (.iload_n 2, 1) := by decide +kernel
theorem dX8_worked_87 : decode cX8_worked 87 = .ok (.iconst 1, 1) := by decide +kernel
theorem dX8_worked_88 : decode cX8_worked 88 = .ok (.isub, 1) := by decide +kernel
theorem dX8_worked_89 : decode cX8_worked 89 = .ok (.iaload, 1) := by decide +kernel
theorem dX8_worked_90 : decode cX8_worked 90 = .ok (.i2l, 1) := by decide +kernel
theorem dX8_worked_91 : decode cX8_worked 91 = .ok (.lstore 5, 2) := by decide +kernel
theorem dX8_worked_93 : decode cX8_worked 93 = .ok (.aload_n 0, 1) := by decide +kernel
theorem dX8_worked_94 : decode cX8_worked 94 = .ok (.getfield 102, 3) := by decide +kernel
theorem dX8_worked_97 : decode cX8_worked 97 = .ok (.iload_n 2, 1) := by decide +kernel
theorem dX8_worked_98 : decode cX8_worked 98 = .ok (.iaload, 1) := by decide +kernel
theorem dX8_worked_99 : decode cX8_worked 99 = .ok (.i2l, 1) := by decide +kernel
theorem dX8_worked_100 : decode cX8_worked 100 = .ok (.lstore 7, 2) := by decide +kernel
theorem dX8_worked_102 : decode cX8_worked 102 = .ok (.aload_n 0, 1) := by decide +kernel
theorem dX8_worked_103 : decode cX8_worked 103 = .ok (.getfield 102, 3) := by decide +kernel
theorem dX8_worked_106 : decode cX8_worked 106 = .ok (.iload_n 2, 1) := by decide +kernel
theorem dX8_worked_107 : decode cX8_worked 107 = .ok (.iconst 1, 1) := by decide +kernel
theorem dX8_worked_108 : decode cX8_worked 108 = .ok (.isub, 1) := by decide +kernel
theorem dX8_worked_109 : decode cX8_worked 109 = .ok (.iload 4, 2) := by decide +kernel
theorem dX8_worked_111 : decode cX8_worked 111 = .ok (.sipush 20001, 3) := by decide +kernel
theorem dX8_worked_114 : decode cX8_worked 114 = .ok (.if_icmp .ne 14, 3) := by decide +kernel
theorem dX8_worked_117 : decode cX8_worked 117 = .ok (.lload 5, 2) := by decide +kernel
theorem dX8_worked_119 : decode cX8_worked 119 = .ok (.lload 7, 2) := by decide +kernel
theorem dX8_worked_121 : decode cX8_worked 121 = .ok (.ladd, 1) := by decide +kernel
theorem dX8_worked_122 : decode cX8_worked 122 = .ok (.invokestatic 411, 3) := by decide +kernel
theorem dX8_worked_125 : decode cX8_worked 125 = .ok (.goto 106, 3) := by decide +kernel
theorem dX8_worked_128 : decode cX8_worked 128 = .ok (.iload 4, 2) := by decide +kernel
theorem dX8_worked_130 : decode cX8_worked 130 = .ok (.sipush 20002, 3) := by decide +kernel
theorem dX8_worked_133 : decode cX8_worked 133 = .ok (.if_icmp .ne 14, 3) := by decide +kernel
theorem dX8_worked_136 : decode cX8_worked 136 = .ok (.lload 5, 2) := by decide +kernel
theorem dX8_worked_138 : decode cX8_worked 138 = .ok (.lload 7, 2) := by decide +kernel
theorem dX8_worked_140 : decode cX8_worked 140 = .ok (.lsub, 1) := by decide +kernel
theorem dX8_worked_141 : decode cX8_worked 141 = .ok (.invokestatic 411, 3) := by decide +kernel
theorem dX8_worked_144 : decode cX8_worked 144 = .ok (.goto 87, 3) := by decide +kernel
theorem dX8_worked_147 : decode cX8_worked 147 = .ok (.iload 4, 2) := by decide +kernel
theorem dX8_worked_149 : decode cX8_worked 149 = .ok (.sipush 20003, 3) := by decide +kernel
theorem dX8_worked_152 : decode cX8_worked 152 = .ok (.if_icmp .ne 14, 3) := by decide +kernel
theorem dX8_worked_155 : decode cX8_worked 155 = .ok (.lload 5, 2) := by decide +kernel
theorem dX8_worked_157 : decode cX8_worked 157 = .ok (.lload 7, 2) := by decide +kernel
theorem dX8_worked_159 : decode cX8_worked 159 = .ok (.lmul, 1) := by decide +kernel
theorem dX8_worked_160 : decode cX8_worked 160 = .ok (.invokestatic 411, 3) := by decide +kernel
theorem dX8_worked_163 : decode cX8_worked 163 = .ok (.goto 68, 3) := by decide +kernel
theorem dX8_worked_166 : decode cX8_worked 166 = .ok (.iload 4, 2) := by decide +kernel
theorem dX8_worked_168 : decode cX8_worked 168 = .ok (.sipush 20004, 3) := by decide +kernel
theorem dX8_worked_171 : decode cX8_worked 171 = .ok (.if_icmp .ne 19, 3) := by decide +kernel
theorem dX8_worked_174 : decode cX8_worked 174 = .ok (.lload 5, 2) := by decide +kernel
theorem dX8_worked_176 : decode cX8_worked 176 = .ok (.lload 7, 2) := by decide +kernel
theorem dX8_worked_178 : decode cX8_worked 178 = .ok (.lcmp, 1) := by decide +kernel
theorem dX8_worked_179 : decode cX8_worked 179 = .ok (.ifCond .ge 7, 3) := by decide +kernel
theorem dX8_worked_182 : decode cX8_worked 182 = .ok (.iconst 1, 1) := by decide +kernel
theorem dX8_worked_183 : decode cX8_worked 183 = .ok (.goto 48, 3) := by decide +kernel
theorem dX8_worked_186 : decode cX8_worked 186 = .ok (.iconst 0, 1) := by decide +kernel
theorem dX8_worked_187 : decode cX8_worked 187 = .ok (.goto 44, 3) := by decide +kernel
theorem dX8_worked_190 : decode cX8_worked 190 = .ok (.iload 4, 2) := by decide +kernel
theorem dX8_worked_192 : decode cX8_worked 192 = .ok (.sipush 20005, 3) := by decide +kernel
theorem dX8_worked_195 : decode cX8_worked 195 = .ok (.if_icmp .ne 19, 3) := by decide +kernel
theorem dX8_worked_198 : decode cX8_worked 198 = .ok (.lload 5, 2) := by decide +kernel
theorem dX8_worked_200 : decode cX8_worked 200 = .ok (.lload 7, 2) := by decide +kernel
theorem dX8_worked_202 : decode cX8_worked 202 = .ok (.lcmp, 1) := by decide +kernel
theorem dX8_worked_203 : decode cX8_worked 203 = .ok (.ifCond .ne 7, 3) := by decide +kernel
theorem dX8_worked_206 : decode cX8_worked 206 = .ok (.iconst 1, 1) := by decide +kernel
theorem dX8_worked_207 : decode cX8_worked 207 = .ok (.goto 24, 3) := by decide +kernel
theorem dX8_worked_210 : decode cX8_worked 210 = .ok (.iconst 0, 1) := by decide +kernel
theorem dX8_worked_211 : decode cX8_worked 211 = .ok (.goto 20, 3) := by decide +kernel
theorem dX8_worked_214 : decode cX8_worked 214 = .ok (.lload 5, 2) := by decide +kernel
theorem dX8_worked_216 : decode cX8_worked 216 = .ok (.lload 7, 2) := by decide +kernel
theorem dX8_worked_218 : decode cX8_worked 218 = .ok (.ladd, 1) := by decide +kernel
theorem dX8_worked_219 : decode cX8_worked 219 = .ok (.ldc2_w 317, 3) := by decide +kernel
theorem dX8_worked_222 : decode cX8_worked 222 = .ok (.lcmp, 1) := by decide +kernel
theorem dX8_worked_223 : decode cX8_worked 223 = .ok (.ifCond .ne 7, 3) := by decide +kernel
theorem dX8_worked_226 : decode cX8_worked 226 = .ok (.iconst 1, 1) := by decide +kernel
theorem dX8_worked_227 : decode cX8_worked 227 = .ok (.goto 4, 3) := by decide +kernel
theorem dX8_worked_230 : decode cX8_worked 230 = .ok (.iconst 0, 1) := by decide +kernel
theorem dX8_worked_231 : decode cX8_worked 231 = .ok (.iastore, 1) := by decide +kernel
theorem dX8_worked_232 : decode cX8_worked 232 = .ok (.iinc 3 1, 3) := by decide +kernel
theorem dX8_worked_235 : decode cX8_worked 235 = .ok (.goto (-231), 3) := by decide +kernel
theorem dX8_worked_238 : decode cX8_worked 238 = .ok (.aload_n 0, 1) := by decide +kernel
theorem dX8_worked_239 : decode cX8_worked 239 = .ok (.getfield 102, 3) := by decide +kernel
theorem dX8_worked_242 : decode cX8_worked 242 = .ok (.iconst 0, 1) := by decide +kernel
theorem dX8_worked_243 : decode cX8_worked 243 = .ok (.iaload, 1) := by decide +kernel
theorem dX8_worked_244 : decode cX8_worked 244 = .ok (.ireturn, 1) := by decide +kernel
set_option maxHeartbeats 4000000 in
set_option maxRecDepth 100000 in
theorem t_X8_worked {l : Launch} {g : zG} {d : Nat} {s : zS} (hR : zRok s) {p0 : Int32} {K : Int32 → zS → Prop} (h : zt l g (d + 1) M_X8_worked 4 [.ref 164, .int p0, .int (0 : Int32), .int (0 : Int32), zJ, zJ, zJ, zJ, zJ] [] s (zKi K)) : zc l g (d + 1) M_X8_worked [.ref 164, .int p0] s (zKi K) := by
  refine zCall_of k_X8_worked (Nat.le_of_ble_eq_true rfl) (Nat.le_refl _) (fun _ => ?_)
  show zt l g (d + 1) M_X8_worked 0 [.ref 164, .int p0, zJ, zJ, zJ, zJ, zJ, zJ, zJ] [] s (zKi K)
  refine z_iconst (v := (0 : Int32)) dX8_worked_0 (by decide) rfl ?_
  refine z_istore_n (i := 2) dX8_worked_1 rfl (by decide) (zokd rfl) rfl ?_
  show zt l g (d + 1) M_X8_worked 2 [.ref 164, .int p0, .int (0 : Int32), zJ, zJ, zJ, zJ, zJ, zJ] [] s _
  refine z_iconst (v := (0 : Int32)) dX8_worked_2 (by decide) rfl ?_
  refine z_istore_n (i := 3) dX8_worked_3 rfl (by decide) (zokd rfl) rfl ?_
  show zt l g (d + 1) M_X8_worked 4 [.ref 164, .int p0, .int (0 : Int32), .int (0 : Int32), zJ, zJ, zJ, zJ, zJ] [] s _
  exact h
set_option maxHeartbeats 4000000 in
set_option maxRecDepth 100000 in
theorem t_X8_worked_4 {l : Launch} {g : zG} {d : Nat} {s : zS} (hR : zRok s) {x1 : Int32} {x2 : Int32} {x3 : Int32} {K : Int32 → zS → Prop} (h : (vp_in x1 13 ∧ (if (s.1 252 x1.toNatClampNeg) ≤ x3 then K (s.1 260 0) s else (vp_in x1 13 ∧ (vp_in ((s.1 249 x1.toNatClampNeg) + x3) 420 ∧ (∀ v4 : Int32, v4 = s.1 246 (((s.1 249 x1.toNatClampNeg) + x3).toNatClampNeg) → (if (20001 : Int32) ≤ v4 then (vp_in ((x2 - (1 : Int32)) - (1 : Int32)) 420 ∧ (vp_in (x2 - (1 : Int32)) 420 ∧ (if v4 = (20001 : Int32) then (zc l g d M_X8_brought [.long (((s.1 260 (((x2 - (1 : Int32)) - (1 : Int32)).toNatClampNeg)).toInt64) + ((s.1 260 ((x2 - (1 : Int32)).toNatClampNeg)).toInt64))] s (zKi (fun r20 s19 => s19.2.2.1 = s.2.2.1 ∧ (vp_in ((x2 - (1 : Int32)) - (1 : Int32)) 420 ∧ zt l g (d + 1) M_X8_worked 4 [.ref 164, .int x1, .int (x2 - (1 : Int32)), .int (x3 + (1 : Int32)), zJ, zJ, zJ, zJ, zJ] [] (zI s19 260 (((x2 - (1 : Int32)) - (1 : Int32)).toNatClampNeg) r20) (zKi K))))) else (if v4 = (20002 : Int32) then (zc l g d M_X8_brought [.long (((s.1 260 (((x2 - (1 : Int32)) - (1 : Int32)).toNatClampNeg)).toInt64) - ((s.1 260 ((x2 - (1 : Int32)).toNatClampNeg)).toInt64))] s (zKi (fun r17 s16 => s16.2.2.1 = s.2.2.1 ∧ (vp_in ((x2 - (1 : Int32)) - (1 : Int32)) 420 ∧ zt l g (d + 1) M_X8_worked 4 [.ref 164, .int x1, .int (x2 - (1 : Int32)), .int (x3 + (1 : Int32)), zJ, zJ, zJ, zJ, zJ] [] (zI s16 260 (((x2 - (1 : Int32)) - (1 : Int32)).toNatClampNeg) r17) (zKi K))))) else (if v4 = (20003 : Int32) then (zc l g d M_X8_brought [.long (((s.1 260 (((x2 - (1 : Int32)) - (1 : Int32)).toNatClampNeg)).toInt64) * ((s.1 260 ((x2 - (1 : Int32)).toNatClampNeg)).toInt64))] s (zKi (fun r14 s13 => s13.2.2.1 = s.2.2.1 ∧ (vp_in ((x2 - (1 : Int32)) - (1 : Int32)) 420 ∧ zt l g (d + 1) M_X8_worked 4 [.ref 164, .int x1, .int (x2 - (1 : Int32)), .int (x3 + (1 : Int32)), zJ, zJ, zJ, zJ, zJ] [] (zI s13 260 (((x2 - (1 : Int32)) - (1 : Int32)).toNatClampNeg) r14) (zKi K))))) else (if v4 = (20004 : Int32) then (if 0 ≤ (lg_cmp ((s.1 260 (((x2 - (1 : Int32)) - (1 : Int32)).toNatClampNeg)).toInt64) ((s.1 260 ((x2 - (1 : Int32)).toNatClampNeg)).toInt64)) then (vp_in ((x2 - (1 : Int32)) - (1 : Int32)) 420 ∧ zt l g (d + 1) M_X8_worked 4 [.ref 164, .int x1, .int (x2 - (1 : Int32)), .int (x3 + (1 : Int32)), zJ, zJ, zJ, zJ, zJ] [] (zI s 260 (((x2 - (1 : Int32)) - (1 : Int32)).toNatClampNeg) (0 : Int32)) (zKi K)) else (vp_in ((x2 - (1 : Int32)) - (1 : Int32)) 420 ∧ zt l g (d + 1) M_X8_worked 4 [.ref 164, .int x1, .int (x2 - (1 : Int32)), .int (x3 + (1 : Int32)), zJ, zJ, zJ, zJ, zJ] [] (zI s 260 (((x2 - (1 : Int32)) - (1 : Int32)).toNatClampNeg) (1 : Int32)) (zKi K))) else (if v4 = (20005 : Int32) then (if (lg_cmp ((s.1 260 (((x2 - (1 : Int32)) - (1 : Int32)).toNatClampNeg)).toInt64) ((s.1 260 ((x2 - (1 : Int32)).toNatClampNeg)).toInt64)) = 0 then (vp_in ((x2 - (1 : Int32)) - (1 : Int32)) 420 ∧ zt l g (d + 1) M_X8_worked 4 [.ref 164, .int x1, .int (x2 - (1 : Int32)), .int (x3 + (1 : Int32)), zJ, zJ, zJ, zJ, zJ] [] (zI s 260 (((x2 - (1 : Int32)) - (1 : Int32)).toNatClampNeg) (1 : Int32)) (zKi K)) else (vp_in ((x2 - (1 : Int32)) - (1 : Int32)) 420 ∧ zt l g (d + 1) M_X8_worked 4 [.ref 164, .int x1, .int (x2 - (1 : Int32)), .int (x3 + (1 : Int32)), zJ, zJ, zJ, zJ, zJ] [] (zI s 260 (((x2 - (1 : Int32)) - (1 : Int32)).toNatClampNeg) (0 : Int32)) (zKi K))) else (if (lg_cmp (((s.1 260 (((x2 - (1 : Int32)) - (1 : Int32)).toNatClampNeg)).toInt64) + ((s.1 260 ((x2 - (1 : Int32)).toNatClampNeg)).toInt64)) (2 : Int64)) = 0 then (vp_in ((x2 - (1 : Int32)) - (1 : Int32)) 420 ∧ zt l g (d + 1) M_X8_worked 4 [.ref 164, .int x1, .int (x2 - (1 : Int32)), .int (x3 + (1 : Int32)), zJ, zJ, zJ, zJ, zJ] [] (zI s 260 (((x2 - (1 : Int32)) - (1 : Int32)).toNatClampNeg) (1 : Int32)) (zKi K)) else (vp_in ((x2 - (1 : Int32)) - (1 : Int32)) 420 ∧ zt l g (d + 1) M_X8_worked 4 [.ref 164, .int x1, .int (x2 - (1 : Int32)), .int (x3 + (1 : Int32)), zJ, zJ, zJ, zJ, zJ] [] (zI s 260 (((x2 - (1 : Int32)) - (1 : Int32)).toNatClampNeg) (0 : Int32)) (zKi K)))))))))) else (if (10000 : Int32) ≤ v4 then (vp_in (v4 - (10000 : Int32)) 7 ∧ (vp_in x2 420 ∧ zt l g (d + 1) M_X8_worked 4 [.ref 164, .int x1, .int (x2 + (1 : Int32)), .int (x3 + (1 : Int32)), zJ, zJ, zJ, zJ, zJ] [] (zI s 260 x2.toNatClampNeg (s.1 261 ((v4 - (10000 : Int32)).toNatClampNeg))) (zKi K))) else (vp_in x2 420 ∧ zt l g (d + 1) M_X8_worked 4 [.ref 164, .int x1, .int (x2 + (1 : Int32)), .int (x3 + (1 : Int32)), zJ, zJ, zJ, zJ, zJ] [] (zI s 260 x2.toNatClampNeg v4) (zKi K)))))))))) : zt l g (d + 1) M_X8_worked 4 [.ref 164, .int x1, .int x2, .int x3, zJ, zJ, zJ, zJ, zJ] [] s (zKi K) := by
  refine z_iload_n (i := 3) dX8_worked_4 rfl rfl rfl ?_
  refine z_aload_n (i := 0) dX8_worked_5 rfl rfl rfl ?_
  refine z_getR (q := 251) f_X8_86 i_164 rfl (r_164_35 hR) (by decide) dX8_worked_6 rfl ?_
  refine z_iconst (v := (0 : Int32)) dX8_worked_9 (by decide) rfl ?_
  refine z_aald (q := 252) (by decide) a_251 (by unfold vp_in; decide) (by have := hR.1 251 0 (by decide); exact this) (by decide) dX8_worked_10 rfl ?_
  refine z_iload_n (i := 1) dX8_worked_11 rfl rfl rfl ?_
  obtain ⟨a1, h⟩ := h
  have wa1 := vin a1
  refine z_iald (x := s.1 252 x1.toNatClampNeg) rfl a_252 a1 dX8_worked_12 rfl ?_
  refine z_icmp_ge (pt := 238) dX8_worked_13 (by decide) rfl (fun c => ?_) (fun c => ?_)
  · have h := zit h c
    refine z_aload_n (i := 0) dX8_worked_238 rfl rfl rfl ?_
    refine z_getR (q := 260) f_X8_102 i_164 rfl (r_164_40 hR) (by decide) dX8_worked_239 rfl ?_
    refine z_iconst (v := (0 : Int32)) dX8_worked_242 (by decide) rfl ?_
    refine z_iald (x := s.1 260 0) rfl a_260 (by unfold vp_in; decide) dX8_worked_243 rfl ?_
    exact z_ret (some (.int (s.1 260 0))) (Or.inr (Or.inl ⟨_, _, rfl, rfl, rfl, dX8_worked_244⟩)) zN200 ⟨_, rfl, h⟩
  · have h := zif h c
    refine z_aload_n (i := 0) dX8_worked_16 rfl rfl rfl ?_
    refine z_getR (q := 245) f_X8_80 i_164 rfl (r_164_33 hR) (by decide) dX8_worked_17 rfl ?_
    refine z_iconst (v := (0 : Int32)) dX8_worked_20 (by decide) rfl ?_
    refine z_aald (q := 246) (by decide) a_245 (by unfold vp_in; decide) (by have := hR.1 245 0 (by decide); exact this) (by decide) dX8_worked_21 rfl ?_
    refine z_aload_n (i := 0) dX8_worked_22 rfl rfl rfl ?_
    refine z_getR (q := 248) f_X8_83 i_164 rfl (r_164_34 hR) (by decide) dX8_worked_23 rfl ?_
    refine z_iconst (v := (0 : Int32)) dX8_worked_26 (by decide) rfl ?_
    refine z_aald (q := 249) (by decide) a_248 (by unfold vp_in; decide) (by have := hR.1 248 0 (by decide); exact this) (by decide) dX8_worked_27 rfl ?_
    refine z_iload_n (i := 1) dX8_worked_28 rfl rfl rfl ?_
    obtain ⟨a2, h⟩ := h
    have wa2 := vin a2
    refine z_iald (x := s.1 249 x1.toNatClampNeg) rfl a_249 a2 dX8_worked_29 rfl ?_
    refine z_iload_n (i := 3) dX8_worked_30 rfl rfl rfl ?_
    refine z_iadd dX8_worked_31 rfl ?_
    obtain ⟨a3, h⟩ := h
    have wa3 := vin a3
    refine z_iald (x := s.1 246 (((s.1 249 x1.toNatClampNeg) + x3).toNatClampNeg)) rfl a_246 a3 dX8_worked_32 rfl ?_
    refine z_istore dX8_worked_33 (by decide) (zokd rfl) rfl ?_
    obtain ⟨v4, ev4⟩ : ∃ x : Int32, x = s.1 246 (((s.1 249 x1.toNatClampNeg) + x3).toNatClampNeg) := ⟨_, rfl⟩
    rw [← ev4]
    have h := h v4 ev4
    show zt l g (d + 1) M_X8_worked 35 [.ref 164, .int x1, .int x2, .int x3, .int v4, zJ, zJ, zJ, zJ] [] s _
    refine z_iload dX8_worked_35 rfl rfl ?_
    refine z_sipush (v := (20001 : Int32)) dX8_worked_37 (by decide) rfl ?_
    refine z_icmp_ge (pt := 79) dX8_worked_40 (by decide) rfl (fun c => ?_) (fun c => ?_)
    · have h := zit h c
      refine z_iinc (v := x2 - (1 : Int32)) dX8_worked_79 rfl (zincn (by decide)) (by decide) (zokd rfl) rfl ?_
      show zt l g (d + 1) M_X8_worked 82 [.ref 164, .int x1, .int (x2 - (1 : Int32)), .int x3, .int v4, zJ, zJ, zJ, zJ] [] s _
      refine z_aload_n (i := 0) dX8_worked_82 rfl rfl rfl ?_
      refine z_getR (q := 260) f_X8_102 i_164 rfl (r_164_40 hR) (by decide) dX8_worked_83 rfl ?_
      refine z_iload_n (i := 2) dX8_worked_86 rfl rfl rfl ?_
      refine z_iconst (v := (1 : Int32)) dX8_worked_87 (by decide) rfl ?_
      refine z_isub dX8_worked_88 rfl ?_
      obtain ⟨a5, h⟩ := h
      have wa5 := vin a5
      refine z_iald (x := s.1 260 (((x2 - (1 : Int32)) - (1 : Int32)).toNatClampNeg)) rfl a_260 a5 dX8_worked_89 rfl ?_
      refine z_i2l dX8_worked_90 rfl ?_
      refine z_lstore dX8_worked_91 (by decide) (zokd rfl) rfl ?_
      show zt l g (d + 1) M_X8_worked 93 [.ref 164, .int x1, .int (x2 - (1 : Int32)), .int x3, .int v4, .long ((s.1 260 (((x2 - (1 : Int32)) - (1 : Int32)).toNatClampNeg)).toInt64), zJ, zJ, zJ] [] s _
      refine z_aload_n (i := 0) dX8_worked_93 rfl rfl rfl ?_
      refine z_getR (q := 260) f_X8_102 i_164 rfl (r_164_40 hR) (by decide) dX8_worked_94 rfl ?_
      refine z_iload_n (i := 2) dX8_worked_97 rfl rfl rfl ?_
      obtain ⟨a6, h⟩ := h
      have wa6 := vin a6
      refine z_iald (x := s.1 260 ((x2 - (1 : Int32)).toNatClampNeg)) rfl a_260 a6 dX8_worked_98 rfl ?_
      refine z_i2l dX8_worked_99 rfl ?_
      refine z_lstore dX8_worked_100 (by decide) (zokd rfl) rfl ?_
      show zt l g (d + 1) M_X8_worked 102 [.ref 164, .int x1, .int (x2 - (1 : Int32)), .int x3, .int v4, .long ((s.1 260 (((x2 - (1 : Int32)) - (1 : Int32)).toNatClampNeg)).toInt64), zJ, .long ((s.1 260 ((x2 - (1 : Int32)).toNatClampNeg)).toInt64), zJ] [] s _
      refine z_aload_n (i := 0) dX8_worked_102 rfl rfl rfl ?_
      refine z_getR (q := 260) f_X8_102 i_164 rfl (r_164_40 hR) (by decide) dX8_worked_103 rfl ?_
      refine z_iload_n (i := 2) dX8_worked_106 rfl rfl rfl ?_
      refine z_iconst (v := (1 : Int32)) dX8_worked_107 (by decide) rfl ?_
      refine z_isub dX8_worked_108 rfl ?_
      refine z_iload dX8_worked_109 rfl rfl ?_
      refine z_sipush (v := (20001 : Int32)) dX8_worked_111 (by decide) rfl ?_
      refine z_icmp_ne (pt := 128) dX8_worked_114 (by decide) rfl (fun c => ?_) (fun c => ?_)
      · have h := zif h c
        refine z_iload dX8_worked_128 rfl rfl ?_
        refine z_sipush (v := (20002 : Int32)) dX8_worked_130 (by decide) rfl ?_
        refine z_icmp_ne (pt := 147) dX8_worked_133 (by decide) rfl (fun c => ?_) (fun c => ?_)
        · have h := zif h c
          refine z_iload dX8_worked_147 rfl rfl ?_
          refine z_sipush (v := (20003 : Int32)) dX8_worked_149 (by decide) rfl ?_
          refine z_icmp_ne (pt := 166) dX8_worked_152 (by decide) rfl (fun c => ?_) (fun c => ?_)
          · have h := zif h c
            refine z_iload dX8_worked_166 rfl rfl ?_
            refine z_sipush (v := (20004 : Int32)) dX8_worked_168 (by decide) rfl ?_
            refine z_icmp_ne (pt := 190) dX8_worked_171 (by decide) rfl (fun c => ?_) (fun c => ?_)
            · have h := zif h c
              refine z_iload dX8_worked_190 rfl rfl ?_
              refine z_sipush (v := (20005 : Int32)) dX8_worked_192 (by decide) rfl ?_
              refine z_icmp_ne (pt := 214) dX8_worked_195 (by decide) rfl (fun c => ?_) (fun c => ?_)
              · have h := zif h c
                refine z_lload dX8_worked_214 rfl rfl ?_
                refine z_lload dX8_worked_216 rfl rfl ?_
                refine z_ladd dX8_worked_218 rfl ?_
                refine z_ldc2 (v := (2 : Int64)) q_X8_317 dX8_worked_219 rfl ?_
                refine z_lcmp dX8_worked_222 rfl ?_
                refine z_if_ne (pt := 230) dX8_worked_223 (by decide) rfl (fun c => ?_) (fun c => ?_)
                · have h := zif h c
                  refine z_iconst (v := (0 : Int32)) dX8_worked_230 (by decide) rfl ?_
                  obtain ⟨a7, h⟩ := h
                  have wa7 := vin a7
                  refine z_iast a_260 a7 dX8_worked_231 rfl ?_
                  show zt l g (d + 1) M_X8_worked 232 [.ref 164, .int x1, .int (x2 - (1 : Int32)), .int x3, .int v4, .long ((s.1 260 (((x2 - (1 : Int32)) - (1 : Int32)).toNatClampNeg)).toInt64), zJ, .long ((s.1 260 ((x2 - (1 : Int32)).toNatClampNeg)).toInt64), zJ] [] (zI s 260 (((x2 - (1 : Int32)) - (1 : Int32)).toNatClampNeg) (0 : Int32)) _
                  refine z_iinc (v := x3 + (1 : Int32)) dX8_worked_232 rfl rfl (by decide) (zokd rfl) rfl ?_
                  show zt l g (d + 1) M_X8_worked 235 [.ref 164, .int x1, .int (x2 - (1 : Int32)), .int (x3 + (1 : Int32)), .int v4, .long ((s.1 260 (((x2 - (1 : Int32)) - (1 : Int32)).toNatClampNeg)).toInt64), zJ, .long ((s.1 260 ((x2 - (1 : Int32)).toNatClampNeg)).toInt64), zJ] [] (zI s 260 (((x2 - (1 : Int32)) - (1 : Int32)).toNatClampNeg) (0 : Int32)) _
                  refine z_goto (pn := 4) dX8_worked_235 (by decide) ?_
                  refine z_wk (ls' := [.ref 164, .int x1, .int (x2 - (1 : Int32)), .int (x3 + (1 : Int32)), zJ, zJ, zJ, zJ, zJ]) ⟨Or.inr rfl, Or.inr rfl, Or.inr rfl, Or.inr rfl, Or.inl rfl, Or.inl rfl, Or.inr rfl, Or.inl rfl, Or.inr rfl, trivial⟩ ?_
                  exact h
                · have h := zit h c
                  refine z_iconst (v := (1 : Int32)) dX8_worked_226 (by decide) rfl ?_
                  refine z_goto (pn := 231) dX8_worked_227 (by decide) ?_
                  obtain ⟨a8, h⟩ := h
                  have wa8 := vin a8
                  refine z_iast a_260 a8 dX8_worked_231 rfl ?_
                  show zt l g (d + 1) M_X8_worked 232 [.ref 164, .int x1, .int (x2 - (1 : Int32)), .int x3, .int v4, .long ((s.1 260 (((x2 - (1 : Int32)) - (1 : Int32)).toNatClampNeg)).toInt64), zJ, .long ((s.1 260 ((x2 - (1 : Int32)).toNatClampNeg)).toInt64), zJ] [] (zI s 260 (((x2 - (1 : Int32)) - (1 : Int32)).toNatClampNeg) (1 : Int32)) _
                  refine z_iinc (v := x3 + (1 : Int32)) dX8_worked_232 rfl rfl (by decide) (zokd rfl) rfl ?_
                  show zt l g (d + 1) M_X8_worked 235 [.ref 164, .int x1, .int (x2 - (1 : Int32)), .int (x3 + (1 : Int32)), .int v4, .long ((s.1 260 (((x2 - (1 : Int32)) - (1 : Int32)).toNatClampNeg)).toInt64), zJ, .long ((s.1 260 ((x2 - (1 : Int32)).toNatClampNeg)).toInt64), zJ] [] (zI s 260 (((x2 - (1 : Int32)) - (1 : Int32)).toNatClampNeg) (1 : Int32)) _
                  refine z_goto (pn := 4) dX8_worked_235 (by decide) ?_
                  refine z_wk (ls' := [.ref 164, .int x1, .int (x2 - (1 : Int32)), .int (x3 + (1 : Int32)), zJ, zJ, zJ, zJ, zJ]) ⟨Or.inr rfl, Or.inr rfl, Or.inr rfl, Or.inr rfl, Or.inl rfl, Or.inl rfl, Or.inr rfl, Or.inl rfl, Or.inr rfl, trivial⟩ ?_
                  exact h
              · have h := zit h c
                refine z_lload dX8_worked_198 rfl rfl ?_
                refine z_lload dX8_worked_200 rfl rfl ?_
                refine z_lcmp dX8_worked_202 rfl ?_
                refine z_if_ne (pt := 210) dX8_worked_203 (by decide) rfl (fun c => ?_) (fun c => ?_)
                · have h := zif h c
                  refine z_iconst (v := (0 : Int32)) dX8_worked_210 (by decide) rfl ?_
                  refine z_goto (pn := 231) dX8_worked_211 (by decide) ?_
                  obtain ⟨a9, h⟩ := h
                  have wa9 := vin a9
                  refine z_iast a_260 a9 dX8_worked_231 rfl ?_
                  show zt l g (d + 1) M_X8_worked 232 [.ref 164, .int x1, .int (x2 - (1 : Int32)), .int x3, .int v4, .long ((s.1 260 (((x2 - (1 : Int32)) - (1 : Int32)).toNatClampNeg)).toInt64), zJ, .long ((s.1 260 ((x2 - (1 : Int32)).toNatClampNeg)).toInt64), zJ] [] (zI s 260 (((x2 - (1 : Int32)) - (1 : Int32)).toNatClampNeg) (0 : Int32)) _
                  refine z_iinc (v := x3 + (1 : Int32)) dX8_worked_232 rfl rfl (by decide) (zokd rfl) rfl ?_
                  show zt l g (d + 1) M_X8_worked 235 [.ref 164, .int x1, .int (x2 - (1 : Int32)), .int (x3 + (1 : Int32)), .int v4, .long ((s.1 260 (((x2 - (1 : Int32)) - (1 : Int32)).toNatClampNeg)).toInt64), zJ, .long ((s.1 260 ((x2 - (1 : Int32)).toNatClampNeg)).toInt64), zJ] [] (zI s 260 (((x2 - (1 : Int32)) - (1 : Int32)).toNatClampNeg) (0 : Int32)) _
                  refine z_goto (pn := 4) dX8_worked_235 (by decide) ?_
                  refine z_wk (ls' := [.ref 164, .int x1, .int (x2 - (1 : Int32)), .int (x3 + (1 : Int32)), zJ, zJ, zJ, zJ, zJ]) ⟨Or.inr rfl, Or.inr rfl, Or.inr rfl, Or.inr rfl, Or.inl rfl, Or.inl rfl, Or.inr rfl, Or.inl rfl, Or.inr rfl, trivial⟩ ?_
                  exact h
                · have h := zit h c
                  refine z_iconst (v := (1 : Int32)) dX8_worked_206 (by decide) rfl ?_
                  refine z_goto (pn := 231) dX8_worked_207 (by decide) ?_
                  obtain ⟨a10, h⟩ := h
                  have wa10 := vin a10
                  refine z_iast a_260 a10 dX8_worked_231 rfl ?_
                  show zt l g (d + 1) M_X8_worked 232 [.ref 164, .int x1, .int (x2 - (1 : Int32)), .int x3, .int v4, .long ((s.1 260 (((x2 - (1 : Int32)) - (1 : Int32)).toNatClampNeg)).toInt64), zJ, .long ((s.1 260 ((x2 - (1 : Int32)).toNatClampNeg)).toInt64), zJ] [] (zI s 260 (((x2 - (1 : Int32)) - (1 : Int32)).toNatClampNeg) (1 : Int32)) _
                  refine z_iinc (v := x3 + (1 : Int32)) dX8_worked_232 rfl rfl (by decide) (zokd rfl) rfl ?_
                  show zt l g (d + 1) M_X8_worked 235 [.ref 164, .int x1, .int (x2 - (1 : Int32)), .int (x3 + (1 : Int32)), .int v4, .long ((s.1 260 (((x2 - (1 : Int32)) - (1 : Int32)).toNatClampNeg)).toInt64), zJ, .long ((s.1 260 ((x2 - (1 : Int32)).toNatClampNeg)).toInt64), zJ] [] (zI s 260 (((x2 - (1 : Int32)) - (1 : Int32)).toNatClampNeg) (1 : Int32)) _
                  refine z_goto (pn := 4) dX8_worked_235 (by decide) ?_
                  refine z_wk (ls' := [.ref 164, .int x1, .int (x2 - (1 : Int32)), .int (x3 + (1 : Int32)), zJ, zJ, zJ, zJ, zJ]) ⟨Or.inr rfl, Or.inr rfl, Or.inr rfl, Or.inr rfl, Or.inl rfl, Or.inl rfl, Or.inr rfl, Or.inl rfl, Or.inr rfl, trivial⟩ ?_
                  exact h
            · have h := zit h c
              refine z_lload dX8_worked_174 rfl rfl ?_
              refine z_lload dX8_worked_176 rfl rfl ?_
              refine z_lcmp dX8_worked_178 rfl ?_
              refine z_if_ge (pt := 186) dX8_worked_179 (by decide) rfl (fun c => ?_) (fun c => ?_)
              · have h := zit h c
                refine z_iconst (v := (0 : Int32)) dX8_worked_186 (by decide) rfl ?_
                refine z_goto (pn := 231) dX8_worked_187 (by decide) ?_
                obtain ⟨a11, h⟩ := h
                have wa11 := vin a11
                refine z_iast a_260 a11 dX8_worked_231 rfl ?_
                show zt l g (d + 1) M_X8_worked 232 [.ref 164, .int x1, .int (x2 - (1 : Int32)), .int x3, .int v4, .long ((s.1 260 (((x2 - (1 : Int32)) - (1 : Int32)).toNatClampNeg)).toInt64), zJ, .long ((s.1 260 ((x2 - (1 : Int32)).toNatClampNeg)).toInt64), zJ] [] (zI s 260 (((x2 - (1 : Int32)) - (1 : Int32)).toNatClampNeg) (0 : Int32)) _
                refine z_iinc (v := x3 + (1 : Int32)) dX8_worked_232 rfl rfl (by decide) (zokd rfl) rfl ?_
                show zt l g (d + 1) M_X8_worked 235 [.ref 164, .int x1, .int (x2 - (1 : Int32)), .int (x3 + (1 : Int32)), .int v4, .long ((s.1 260 (((x2 - (1 : Int32)) - (1 : Int32)).toNatClampNeg)).toInt64), zJ, .long ((s.1 260 ((x2 - (1 : Int32)).toNatClampNeg)).toInt64), zJ] [] (zI s 260 (((x2 - (1 : Int32)) - (1 : Int32)).toNatClampNeg) (0 : Int32)) _
                refine z_goto (pn := 4) dX8_worked_235 (by decide) ?_
                refine z_wk (ls' := [.ref 164, .int x1, .int (x2 - (1 : Int32)), .int (x3 + (1 : Int32)), zJ, zJ, zJ, zJ, zJ]) ⟨Or.inr rfl, Or.inr rfl, Or.inr rfl, Or.inr rfl, Or.inl rfl, Or.inl rfl, Or.inr rfl, Or.inl rfl, Or.inr rfl, trivial⟩ ?_
                exact h
              · have h := zif h c
                refine z_iconst (v := (1 : Int32)) dX8_worked_182 (by decide) rfl ?_
                refine z_goto (pn := 231) dX8_worked_183 (by decide) ?_
                obtain ⟨a12, h⟩ := h
                have wa12 := vin a12
                refine z_iast a_260 a12 dX8_worked_231 rfl ?_
                show zt l g (d + 1) M_X8_worked 232 [.ref 164, .int x1, .int (x2 - (1 : Int32)), .int x3, .int v4, .long ((s.1 260 (((x2 - (1 : Int32)) - (1 : Int32)).toNatClampNeg)).toInt64), zJ, .long ((s.1 260 ((x2 - (1 : Int32)).toNatClampNeg)).toInt64), zJ] [] (zI s 260 (((x2 - (1 : Int32)) - (1 : Int32)).toNatClampNeg) (1 : Int32)) _
                refine z_iinc (v := x3 + (1 : Int32)) dX8_worked_232 rfl rfl (by decide) (zokd rfl) rfl ?_
                show zt l g (d + 1) M_X8_worked 235 [.ref 164, .int x1, .int (x2 - (1 : Int32)), .int (x3 + (1 : Int32)), .int v4, .long ((s.1 260 (((x2 - (1 : Int32)) - (1 : Int32)).toNatClampNeg)).toInt64), zJ, .long ((s.1 260 ((x2 - (1 : Int32)).toNatClampNeg)).toInt64), zJ] [] (zI s 260 (((x2 - (1 : Int32)) - (1 : Int32)).toNatClampNeg) (1 : Int32)) _
                refine z_goto (pn := 4) dX8_worked_235 (by decide) ?_
                refine z_wk (ls' := [.ref 164, .int x1, .int (x2 - (1 : Int32)), .int (x3 + (1 : Int32)), zJ, zJ, zJ, zJ, zJ]) ⟨Or.inr rfl, Or.inr rfl, Or.inr rfl, Or.inr rfl, Or.inl rfl, Or.inl rfl, Or.inr rfl, Or.inl rfl, Or.inr rfl, trivial⟩ ?_
                exact h
          · have h := zit h c
            refine z_lload dX8_worked_155 rfl rfl ?_
            refine z_lload dX8_worked_157 rfl rfl ?_
            refine z_lmul dX8_worked_159 rfl ?_
            refine z_callS (as := [.long (((s.1 260 (((x2 - (1 : Int32)) - (1 : Int32)).toNatClampNeg)).toInt64) * ((s.1 260 ((x2 - (1 : Int32)).toNatClampNeg)).toInt64))]) k_X8_brought m_X8_411 rfl h rfl (Nat.le_of_ble_eq_true rfl) dX8_worked_160 zy200 rfl ?_
            rintro v s13 ⟨r14, rfl, hRs13, h⟩
            show zt l g (d + 1) M_X8_worked 163 [.ref 164, .int x1, .int (x2 - (1 : Int32)), .int x3, .int v4, .long ((s.1 260 (((x2 - (1 : Int32)) - (1 : Int32)).toNatClampNeg)).toInt64), zJ, .long ((s.1 260 ((x2 - (1 : Int32)).toNatClampNeg)).toInt64), zJ] [.int r14, .int ((x2 - (1 : Int32)) - (1 : Int32)), .ref 260] s13 _
            refine z_goto (pn := 231) dX8_worked_163 (by decide) ?_
            obtain ⟨a15, h⟩ := h
            have wa15 := vin a15
            refine z_iast a_260 a15 dX8_worked_231 rfl ?_
            show zt l g (d + 1) M_X8_worked 232 [.ref 164, .int x1, .int (x2 - (1 : Int32)), .int x3, .int v4, .long ((s.1 260 (((x2 - (1 : Int32)) - (1 : Int32)).toNatClampNeg)).toInt64), zJ, .long ((s.1 260 ((x2 - (1 : Int32)).toNatClampNeg)).toInt64), zJ] [] (zI s13 260 (((x2 - (1 : Int32)) - (1 : Int32)).toNatClampNeg) r14) _
            refine z_iinc (v := x3 + (1 : Int32)) dX8_worked_232 rfl rfl (by decide) (zokd rfl) rfl ?_
            show zt l g (d + 1) M_X8_worked 235 [.ref 164, .int x1, .int (x2 - (1 : Int32)), .int (x3 + (1 : Int32)), .int v4, .long ((s.1 260 (((x2 - (1 : Int32)) - (1 : Int32)).toNatClampNeg)).toInt64), zJ, .long ((s.1 260 ((x2 - (1 : Int32)).toNatClampNeg)).toInt64), zJ] [] (zI s13 260 (((x2 - (1 : Int32)) - (1 : Int32)).toNatClampNeg) r14) _
            refine z_goto (pn := 4) dX8_worked_235 (by decide) ?_
            refine z_wk (ls' := [.ref 164, .int x1, .int (x2 - (1 : Int32)), .int (x3 + (1 : Int32)), zJ, zJ, zJ, zJ, zJ]) ⟨Or.inr rfl, Or.inr rfl, Or.inr rfl, Or.inr rfl, Or.inl rfl, Or.inl rfl, Or.inr rfl, Or.inl rfl, Or.inr rfl, trivial⟩ ?_
            exact h
        · have h := zit h c
          refine z_lload dX8_worked_136 rfl rfl ?_
          refine z_lload dX8_worked_138 rfl rfl ?_
          refine z_lsub dX8_worked_140 rfl ?_
          refine z_callS (as := [.long (((s.1 260 (((x2 - (1 : Int32)) - (1 : Int32)).toNatClampNeg)).toInt64) - ((s.1 260 ((x2 - (1 : Int32)).toNatClampNeg)).toInt64))]) k_X8_brought m_X8_411 rfl h rfl (Nat.le_of_ble_eq_true rfl) dX8_worked_141 zy200 rfl ?_
          rintro v s16 ⟨r17, rfl, hRs16, h⟩
          show zt l g (d + 1) M_X8_worked 144 [.ref 164, .int x1, .int (x2 - (1 : Int32)), .int x3, .int v4, .long ((s.1 260 (((x2 - (1 : Int32)) - (1 : Int32)).toNatClampNeg)).toInt64), zJ, .long ((s.1 260 ((x2 - (1 : Int32)).toNatClampNeg)).toInt64), zJ] [.int r17, .int ((x2 - (1 : Int32)) - (1 : Int32)), .ref 260] s16 _
          refine z_goto (pn := 231) dX8_worked_144 (by decide) ?_
          obtain ⟨a18, h⟩ := h
          have wa18 := vin a18
          refine z_iast a_260 a18 dX8_worked_231 rfl ?_
          show zt l g (d + 1) M_X8_worked 232 [.ref 164, .int x1, .int (x2 - (1 : Int32)), .int x3, .int v4, .long ((s.1 260 (((x2 - (1 : Int32)) - (1 : Int32)).toNatClampNeg)).toInt64), zJ, .long ((s.1 260 ((x2 - (1 : Int32)).toNatClampNeg)).toInt64), zJ] [] (zI s16 260 (((x2 - (1 : Int32)) - (1 : Int32)).toNatClampNeg) r17) _
          refine z_iinc (v := x3 + (1 : Int32)) dX8_worked_232 rfl rfl (by decide) (zokd rfl) rfl ?_
          show zt l g (d + 1) M_X8_worked 235 [.ref 164, .int x1, .int (x2 - (1 : Int32)), .int (x3 + (1 : Int32)), .int v4, .long ((s.1 260 (((x2 - (1 : Int32)) - (1 : Int32)).toNatClampNeg)).toInt64), zJ, .long ((s.1 260 ((x2 - (1 : Int32)).toNatClampNeg)).toInt64), zJ] [] (zI s16 260 (((x2 - (1 : Int32)) - (1 : Int32)).toNatClampNeg) r17) _
          refine z_goto (pn := 4) dX8_worked_235 (by decide) ?_
          refine z_wk (ls' := [.ref 164, .int x1, .int (x2 - (1 : Int32)), .int (x3 + (1 : Int32)), zJ, zJ, zJ, zJ, zJ]) ⟨Or.inr rfl, Or.inr rfl, Or.inr rfl, Or.inr rfl, Or.inl rfl, Or.inl rfl, Or.inr rfl, Or.inl rfl, Or.inr rfl, trivial⟩ ?_
          exact h
      · have h := zit h c
        refine z_lload dX8_worked_117 rfl rfl ?_
        refine z_lload dX8_worked_119 rfl rfl ?_
        refine z_ladd dX8_worked_121 rfl ?_
        refine z_callS (as := [.long (((s.1 260 (((x2 - (1 : Int32)) - (1 : Int32)).toNatClampNeg)).toInt64) + ((s.1 260 ((x2 - (1 : Int32)).toNatClampNeg)).toInt64))]) k_X8_brought m_X8_411 rfl h rfl (Nat.le_of_ble_eq_true rfl) dX8_worked_122 zy200 rfl ?_
        rintro v s19 ⟨r20, rfl, hRs19, h⟩
        show zt l g (d + 1) M_X8_worked 125 [.ref 164, .int x1, .int (x2 - (1 : Int32)), .int x3, .int v4, .long ((s.1 260 (((x2 - (1 : Int32)) - (1 : Int32)).toNatClampNeg)).toInt64), zJ, .long ((s.1 260 ((x2 - (1 : Int32)).toNatClampNeg)).toInt64), zJ] [.int r20, .int ((x2 - (1 : Int32)) - (1 : Int32)), .ref 260] s19 _
        refine z_goto (pn := 231) dX8_worked_125 (by decide) ?_
        obtain ⟨a21, h⟩ := h
        have wa21 := vin a21
        refine z_iast a_260 a21 dX8_worked_231 rfl ?_
        show zt l g (d + 1) M_X8_worked 232 [.ref 164, .int x1, .int (x2 - (1 : Int32)), .int x3, .int v4, .long ((s.1 260 (((x2 - (1 : Int32)) - (1 : Int32)).toNatClampNeg)).toInt64), zJ, .long ((s.1 260 ((x2 - (1 : Int32)).toNatClampNeg)).toInt64), zJ] [] (zI s19 260 (((x2 - (1 : Int32)) - (1 : Int32)).toNatClampNeg) r20) _
        refine z_iinc (v := x3 + (1 : Int32)) dX8_worked_232 rfl rfl (by decide) (zokd rfl) rfl ?_
        show zt l g (d + 1) M_X8_worked 235 [.ref 164, .int x1, .int (x2 - (1 : Int32)), .int (x3 + (1 : Int32)), .int v4, .long ((s.1 260 (((x2 - (1 : Int32)) - (1 : Int32)).toNatClampNeg)).toInt64), zJ, .long ((s.1 260 ((x2 - (1 : Int32)).toNatClampNeg)).toInt64), zJ] [] (zI s19 260 (((x2 - (1 : Int32)) - (1 : Int32)).toNatClampNeg) r20) _
        refine z_goto (pn := 4) dX8_worked_235 (by decide) ?_
        refine z_wk (ls' := [.ref 164, .int x1, .int (x2 - (1 : Int32)), .int (x3 + (1 : Int32)), zJ, zJ, zJ, zJ, zJ]) ⟨Or.inr rfl, Or.inr rfl, Or.inr rfl, Or.inr rfl, Or.inl rfl, Or.inl rfl, Or.inr rfl, Or.inl rfl, Or.inr rfl, trivial⟩ ?_
        exact h
    · have h := zif h c
      refine z_aload_n (i := 0) dX8_worked_43 rfl rfl rfl ?_
      refine z_getR (q := 260) f_X8_102 i_164 rfl (r_164_40 hR) (by decide) dX8_worked_44 rfl ?_
      refine z_iload_n (i := 2) dX8_worked_47 rfl rfl rfl ?_
      refine z_iload dX8_worked_48 rfl rfl ?_
      refine z_sipush (v := (10000 : Int32)) dX8_worked_50 (by decide) rfl ?_
      refine z_icmp_ge (pt := 61) dX8_worked_53 (by decide) rfl (fun c => ?_) (fun c => ?_)
      · have h := zit h c
        refine z_aload_n (i := 0) dX8_worked_61 rfl rfl rfl ?_
        refine z_getR (q := 261) f_X8_105 i_164 rfl (r_164_41 hR) (by decide) dX8_worked_62 rfl ?_
        refine z_iload dX8_worked_65 rfl rfl ?_
        refine z_sipush (v := (10000 : Int32)) dX8_worked_67 (by decide) rfl ?_
        refine z_isub dX8_worked_70 rfl ?_
        obtain ⟨a22, h⟩ := h
        have wa22 := vin a22
        refine z_iald (x := s.1 261 ((v4 - (10000 : Int32)).toNatClampNeg)) rfl a_261 a22 dX8_worked_71 rfl ?_
        obtain ⟨a23, h⟩ := h
        have wa23 := vin a23
        refine z_iast a_260 a23 dX8_worked_72 rfl ?_
        show zt l g (d + 1) M_X8_worked 73 [.ref 164, .int x1, .int x2, .int x3, .int v4, zJ, zJ, zJ, zJ] [] (zI s 260 x2.toNatClampNeg (s.1 261 ((v4 - (10000 : Int32)).toNatClampNeg))) _
        refine z_iinc (v := x2 + (1 : Int32)) dX8_worked_73 rfl rfl (by decide) (zokd rfl) rfl ?_
        show zt l g (d + 1) M_X8_worked 76 [.ref 164, .int x1, .int (x2 + (1 : Int32)), .int x3, .int v4, zJ, zJ, zJ, zJ] [] (zI s 260 x2.toNatClampNeg (s.1 261 ((v4 - (10000 : Int32)).toNatClampNeg))) _
        refine z_goto (pn := 232) dX8_worked_76 (by decide) ?_
        refine z_iinc (v := x3 + (1 : Int32)) dX8_worked_232 rfl rfl (by decide) (zokd rfl) rfl ?_
        show zt l g (d + 1) M_X8_worked 235 [.ref 164, .int x1, .int (x2 + (1 : Int32)), .int (x3 + (1 : Int32)), .int v4, zJ, zJ, zJ, zJ] [] (zI s 260 x2.toNatClampNeg (s.1 261 ((v4 - (10000 : Int32)).toNatClampNeg))) _
        refine z_goto (pn := 4) dX8_worked_235 (by decide) ?_
        refine z_wk (ls' := [.ref 164, .int x1, .int (x2 + (1 : Int32)), .int (x3 + (1 : Int32)), zJ, zJ, zJ, zJ, zJ]) ⟨Or.inr rfl, Or.inr rfl, Or.inr rfl, Or.inr rfl, Or.inl rfl, Or.inr rfl, Or.inr rfl, Or.inr rfl, Or.inr rfl, trivial⟩ ?_
        exact h
      · have h := zif h c
        refine z_iload dX8_worked_56 rfl rfl ?_
        refine z_goto (pn := 72) dX8_worked_58 (by decide) ?_
        obtain ⟨a24, h⟩ := h
        have wa24 := vin a24
        refine z_iast a_260 a24 dX8_worked_72 rfl ?_
        show zt l g (d + 1) M_X8_worked 73 [.ref 164, .int x1, .int x2, .int x3, .int v4, zJ, zJ, zJ, zJ] [] (zI s 260 x2.toNatClampNeg v4) _
        refine z_iinc (v := x2 + (1 : Int32)) dX8_worked_73 rfl rfl (by decide) (zokd rfl) rfl ?_
        show zt l g (d + 1) M_X8_worked 76 [.ref 164, .int x1, .int (x2 + (1 : Int32)), .int x3, .int v4, zJ, zJ, zJ, zJ] [] (zI s 260 x2.toNatClampNeg v4) _
        refine z_goto (pn := 232) dX8_worked_76 (by decide) ?_
        refine z_iinc (v := x3 + (1 : Int32)) dX8_worked_232 rfl rfl (by decide) (zokd rfl) rfl ?_
        show zt l g (d + 1) M_X8_worked 235 [.ref 164, .int x1, .int (x2 + (1 : Int32)), .int (x3 + (1 : Int32)), .int v4, zJ, zJ, zJ, zJ] [] (zI s 260 x2.toNatClampNeg v4) _
        refine z_goto (pn := 4) dX8_worked_235 (by decide) ?_
        refine z_wk (ls' := [.ref 164, .int x1, .int (x2 + (1 : Int32)), .int (x3 + (1 : Int32)), zJ, zJ, zJ, zJ, zJ]) ⟨Or.inr rfl, Or.inr rfl, Or.inr rfl, Or.inr rfl, Or.inl rfl, Or.inr rfl, Or.inr rfl, Or.inr rfl, Or.inr rfl, trivial⟩ ?_
        exact h
theorem dX8_lays_0 : decode cX8_lays 0 = .ok (.iconst 0, 1) := by decide +kernel
theorem dX8_lays_1 : decode cX8_lays 1 = .ok (.istore 5, 2) := by decide +kernel
theorem dX8_lays_3 : decode cX8_lays 3 = .ok (.iload 5, 2) := by decide +kernel
theorem dX8_lays_5 : decode cX8_lays 5 = .ok (.bipush 7, 2) := by decide +kernel
theorem dX8_lays_7 : decode cX8_lays 7 = .ok (.if_icmp .ge 17, 3) := by decide +kernel
theorem dX8_lays_10 : decode cX8_lays 10 = .ok (.aload_n 0, 1) := by decide +kernel
theorem dX8_lays_11 : decode cX8_lays 11 = .ok (.getfield 105, 3) := by decide +kernel
theorem dX8_lays_14 : decode cX8_lays 14 = .ok (.iload 5, 2) := by decide +kernel
theorem dX8_lays_16 : decode cX8_lays 16 = .ok (.iconst 0, 1) := by decide +kernel
theorem dX8_lays_17 : decode cX8_lays 17 = .ok (.iastore, 1) := by decide +kernel
theorem dX8_lays_18 : decode cX8_lays 18 = .ok (.iinc 5 1, 3) := by decide +kernel
theorem dX8_lays_21 : decode cX8_lays 21 = .ok (.goto (-18), 3) := by decide +kernel
theorem dX8_lays_24 : decode cX8_lays 24 = .ok (.aload_n 0, 1) := by decide +kernel
theorem dX8_lays_25 : decode cX8_lays 25 = .ok (.getfield 105, 3) := by decide +kernel
theorem dX8_lays_28 : decode cX8_lays 28 = .ok (.iconst 0, 1) := by decide +kernel
theorem dX8_lays_29 : decode cX8_lays 29 = .ok (.iload_n 1, 1) := by decide +kernel
theorem dX8_lays_30 : decode cX8_lays 30 = .ok (.iastore, 1) := by decide +kernel
theorem dX8_lays_31 : decode cX8_lays 31 = .ok (.aload_n 0, 1) := by decide +kernel
theorem dX8_lays_32 : decode cX8_lays 32 = .ok (.getfield 105, 3) := by decide +kernel
theorem dX8_lays_35 : decode cX8_lays 35 = .ok (.iconst 1, 1) := by decide +kernel
theorem dX8_lays_36 : decode cX8_lays 36 = .ok (.iload_n 2, 1) := by decide +kernel
theorem dX8_lays_37 : decode cX8_lays 37 = .ok (.iastore, 1) := by decide +kernel
theorem dX8_lays_38 : decode cX8_lays 38 = .ok (.aload_n 0, 1) := by decide +kernel
theorem dX8_lays_39 : decode cX8_lays 39 = .ok (.getfield 105, 3) := by decide +kernel
theorem dX8_lays_42 : decode cX8_lays 42 = .ok (.iconst 2, 1) := by decide +kernel
theorem dX8_lays_43 : decode cX8_lays 43 = .ok (.iload_n 3, 1) := by decide +kernel
theorem dX8_lays_44 : decode cX8_lays 44 = .ok (.iastore, 1) := by decide +kernel
theorem dX8_lays_45 : decode cX8_lays 45 = .ok (.aload_n 0, 1) := by decide +kernel
theorem dX8_lays_46 : decode cX8_lays 46 = .ok (.getfield 105, 3) := by decide +kernel
theorem dX8_lays_49 : decode cX8_lays 49 = .ok (.iconst 3, 1) := by decide +kernel
theorem dX8_lays_50 : decode cX8_lays 50 = .ok (.iload 4, 2) := by decide +kernel
theorem dX8_lays_52 : decode cX8_lays 52 = .ok (.iastore, 1) := by decide +kernel
theorem dX8_lays_53 : decode cX8_lays 53 = .ok (.return_, 1) := by decide +kernel
set_option maxHeartbeats 4000000 in
set_option maxRecDepth 100000 in
theorem t_X8_lays {l : Launch} {g : zG} {d : Nat} {s : zS} (hR : zRok s) {p0 : Int32} {p1 : Int32} {p2 : Int32} {p3 : Int32} {K : zS → Prop} (h : zt l g d M_X8_lays 3 [.ref 164, .int p0, .int p1, .int p2, .int p3, .int (0 : Int32)] [] s (zKv K)) : zc l g d M_X8_lays [.ref 164, .int p0, .int p1, .int p2, .int p3] s (zKv K) := by
  refine zCall_of k_X8_lays (Nat.le_of_ble_eq_true rfl) (Nat.le_refl _) (fun _ => ?_)
  show zt l g d M_X8_lays 0 [.ref 164, .int p0, .int p1, .int p2, .int p3, zJ] [] s (zKv K)
  refine z_iconst (v := (0 : Int32)) dX8_lays_0 (by decide) rfl ?_
  refine z_istore dX8_lays_1 (by decide) (zokd rfl) rfl ?_
  show zt l g d M_X8_lays 3 [.ref 164, .int p0, .int p1, .int p2, .int p3, .int (0 : Int32)] [] s _
  exact h
set_option maxHeartbeats 4000000 in
set_option maxRecDepth 100000 in
theorem t_X8_lays_3 {l : Launch} {g : zG} {d : Nat} {s : zS} (hR : zRok s) {x1 : Int32} {x2 : Int32} {x3 : Int32} {x4 : Int32} {x5 : Int32} {K : zS → Prop} (h : (if (7 : Int32) ≤ x5 then K (zI (zI (zI (zI s 261 0 x1) 261 1 x2) 261 2 x3) 261 3 x4) else (vp_in x5 7 ∧ zt l g d M_X8_lays 3 [.ref 164, .int x1, .int x2, .int x3, .int x4, .int (x5 + (1 : Int32))] [] (zI s 261 x5.toNatClampNeg (0 : Int32)) (zKv K)))) : zt l g d M_X8_lays 3 [.ref 164, .int x1, .int x2, .int x3, .int x4, .int x5] [] s (zKv K) := by
  refine z_iload dX8_lays_3 rfl rfl ?_
  refine z_bipush (v := (7 : Int32)) dX8_lays_5 (by decide) rfl ?_
  refine z_icmp_ge (pt := 24) dX8_lays_7 (by decide) rfl (fun c => ?_) (fun c => ?_)
  · have h := zit h c
    refine z_aload_n (i := 0) dX8_lays_24 rfl rfl rfl ?_
    refine z_getR (q := 261) f_X8_105 i_164 rfl (r_164_41 hR) (by decide) dX8_lays_25 rfl ?_
    refine z_iconst (v := (0 : Int32)) dX8_lays_28 (by decide) rfl ?_
    refine z_iload_n (i := 1) dX8_lays_29 rfl rfl rfl ?_
    refine z_iast a_261 (by unfold vp_in; decide) dX8_lays_30 rfl ?_
    show zt l g d M_X8_lays 31 [.ref 164, .int x1, .int x2, .int x3, .int x4, .int x5] [] (zI s 261 0 x1) _
    refine z_aload_n (i := 0) dX8_lays_31 rfl rfl rfl ?_
    refine z_getR (q := 261) f_X8_105 i_164 rfl (r_164_41 hR) (by decide) dX8_lays_32 rfl ?_
    refine z_iconst (v := (1 : Int32)) dX8_lays_35 (by decide) rfl ?_
    refine z_iload_n (i := 2) dX8_lays_36 rfl rfl rfl ?_
    refine z_iast a_261 (by unfold vp_in; decide) dX8_lays_37 rfl ?_
    show zt l g d M_X8_lays 38 [.ref 164, .int x1, .int x2, .int x3, .int x4, .int x5] [] (zI (zI s 261 0 x1) 261 1 x2) _
    refine z_aload_n (i := 0) dX8_lays_38 rfl rfl rfl ?_
    refine z_getR (q := 261) f_X8_105 i_164 rfl (r_164_41 hR) (by decide) dX8_lays_39 rfl ?_
    refine z_iconst (v := (2 : Int32)) dX8_lays_42 (by decide) rfl ?_
    refine z_iload_n (i := 3) dX8_lays_43 rfl rfl rfl ?_
    refine z_iast a_261 (by unfold vp_in; decide) dX8_lays_44 rfl ?_
    show zt l g d M_X8_lays 45 [.ref 164, .int x1, .int x2, .int x3, .int x4, .int x5] [] (zI (zI (zI s 261 0 x1) 261 1 x2) 261 2 x3) _
    refine z_aload_n (i := 0) dX8_lays_45 rfl rfl rfl ?_
    refine z_getR (q := 261) f_X8_105 i_164 rfl (r_164_41 hR) (by decide) dX8_lays_46 rfl ?_
    refine z_iconst (v := (3 : Int32)) dX8_lays_49 (by decide) rfl ?_
    refine z_iload dX8_lays_50 rfl rfl ?_
    refine z_iast a_261 (by unfold vp_in; decide) dX8_lays_52 rfl ?_
    show zt l g d M_X8_lays 53 [.ref 164, .int x1, .int x2, .int x3, .int x4, .int x5] [] (zI (zI (zI (zI s 261 0 x1) 261 1 x2) 261 2 x3) 261 3 x4) _
    exact z_ret none (Or.inl ⟨rfl, rfl, dX8_lays_53⟩) zN200 ⟨rfl, h⟩
  · have h := zif h c
    refine z_aload_n (i := 0) dX8_lays_10 rfl rfl rfl ?_
    refine z_getR (q := 261) f_X8_105 i_164 rfl (r_164_41 hR) (by decide) dX8_lays_11 rfl ?_
    refine z_iload dX8_lays_14 rfl rfl ?_
    refine z_iconst (v := (0 : Int32)) dX8_lays_16 (by decide) rfl ?_
    obtain ⟨a1, h⟩ := h
    have wa1 := vin a1
    refine z_iast a_261 a1 dX8_lays_17 rfl ?_
    show zt l g d M_X8_lays 18 [.ref 164, .int x1, .int x2, .int x3, .int x4, .int x5] [] (zI s 261 x5.toNatClampNeg (0 : Int32)) _
    refine z_iinc (v := x5 + (1 : Int32)) dX8_lays_18 rfl rfl (by decide) (zokd rfl) rfl ?_
    show zt l g d M_X8_lays 21 [.ref 164, .int x1, .int x2, .int x3, .int x4, .int (x5 + (1 : Int32))] [] (zI s 261 x5.toNatClampNeg (0 : Int32)) _
    refine z_goto (pn := 3) dX8_lays_21 (by decide) ?_
    exact h
theorem dX8_areLater_0 : decode cX8_areLater 0 = .ok (.iload_n 0, 1) := by decide +kernel
theorem dX8_areLater_1 : decode cX8_areLater 1 = .ok (.i2l, 1) := by decide +kernel
theorem dX8_areLater_2 : decode cX8_areLater 2 = .ok (.lconst 0, 1) := by decide +kernel
theorem dX8_areLater_3 : decode cX8_areLater 3 = .ok (.ldc2_w 415, 3) := by decide +kernel
theorem dX8_areLater_6 : decode cX8_areLater 6 = .ok (.invokestatic 147, 3) := by decide +kernel
theorem dX8_areLater_9 : decode cX8_areLater 9 = .ok (.ifCond .eq 19, 3) := by decide +kernel
theorem dX8_areLater_12 : decode cX8_areLater 12 = .ok (.iload_n 1, 1) := by decide +kernel
theorem dX8_areLater_13 : decode cX8_areLater 13 = .ok (.i2l, 1) := by decide +kernel
theorem dX8_areLater_14 : decode cX8_areLater 14 = .ok (.lconst 0, 1) := by decide +kernel
theorem dX8_areLater_15 : decode cX8_areLater 15 = .ok (.ldc2_w 415, 3) := by decide +kernel
theorem dX8_areLater_18 : decode cX8_areLater 18 = .ok (.invokestatic 147, 3) := by decide +kernel
theorem dX8_areLater_21 : decode cX8_areLater 21 = .ok (.ifCond .eq 7, 3) := by decide +kernel
theorem dX8_areLater_24 : decode cX8_areLater 24 = .ok (.iconst 1, 1) := by decide +kernel
theorem dX8_areLater_25 : decode cX8_areLater 25 = .ok (.goto 4, 3) := by decide +kernel
theorem dX8_areLater_28 : decode cX8_areLater 28 = .ok (.iconst 0, 1) := by decide +kernel
theorem dX8_areLater_29 : decode cX8_areLater 29 = .ok (.ireturn, 1) := by decide +kernel
set_option maxHeartbeats 4000000 in
set_option maxRecDepth 100000 in
theorem t_X8_areLater {l : Launch} {g : zG} {d : Nat} {s : zS} (hR : zRok s) {p0 : Int32} {p1 : Int32} {K : Bool → zS → Prop} (h : (if (zinr p0.toInt64 (0 : Int64) (99 : Int64)) = true then (if (zinr p1.toInt64 (0 : Int64) (99 : Int64)) = true then K true s else K false s) else K false s)) : zc l g (d + 1) M_X8_areLater [.int p0, .int p1] s (zKz K) := by
  refine zCall_of k_X8_areLater (Nat.le_of_ble_eq_true rfl) (Nat.le_refl _) (fun _ => ?_)
  show zt l g (d + 1) M_X8_areLater 0 [.int p0, .int p1] [] s (zKz K)
  refine z_iload_n (i := 0) dX8_areLater_0 rfl rfl rfl ?_
  refine z_i2l dX8_areLater_1 rfl ?_
  refine z_lconst (v := (0 : Int64)) dX8_areLater_2 (by decide) rfl ?_
  refine z_ldc2 (v := (99 : Int64)) q_X8_415 dX8_areLater_3 rfl ?_
  refine z_in m_X8_147 dX8_areLater_6 (Nat.le_of_ble_eq_true rfl) rfl ?_
  refine z_ifb_eq (pt := 28) dX8_areLater_9 (by decide) rfl (fun c => ?_) (fun c => ?_)
  · have h := zif h (by rw [c]; exact Bool.false_ne_true)
    refine z_iconst (v := (0 : Int32)) dX8_areLater_28 (by decide) rfl ?_
    exact z_ret (some (.int (zb false))) (Or.inr (Or.inl ⟨_, _, rfl, rfl, zb_nar _, dX8_areLater_29⟩)) zN200 ⟨_, rfl, h⟩
  · have h := zit h c
    refine z_iload_n (i := 1) dX8_areLater_12 rfl rfl rfl ?_
    refine z_i2l dX8_areLater_13 rfl ?_
    refine z_lconst (v := (0 : Int64)) dX8_areLater_14 (by decide) rfl ?_
    refine z_ldc2 (v := (99 : Int64)) q_X8_415 dX8_areLater_15 rfl ?_
    refine z_in m_X8_147 dX8_areLater_18 (Nat.le_of_ble_eq_true rfl) rfl ?_
    refine z_ifb_eq (pt := 28) dX8_areLater_21 (by decide) rfl (fun c => ?_) (fun c => ?_)
    · have h := zif h (by rw [c]; exact Bool.false_ne_true)
      refine z_iconst (v := (0 : Int32)) dX8_areLater_28 (by decide) rfl ?_
      exact z_ret (some (.int (zb false))) (Or.inr (Or.inl ⟨_, _, rfl, rfl, zb_nar _, dX8_areLater_29⟩)) zN200 ⟨_, rfl, h⟩
    · have h := zit h c
      refine z_iconst (v := (1 : Int32)) dX8_areLater_24 (by decide) rfl ?_
      refine z_goto (pn := 29) dX8_areLater_25 (by decide) ?_
      exact z_ret (some (.int (zb true))) (Or.inr (Or.inl ⟨_, _, rfl, rfl, zb_nar _, dX8_areLater_29⟩)) zN200 ⟨_, rfl, h⟩
theorem dX8_office_0 : decode cX8_office 0 = .ok (.aload_n 0, 1) := by decide +kernel
theorem dX8_office_1 : decode cX8_office 1 = .ok (.iload_n 1, 1) := by decide +kernel
theorem dX8_office_2 : decode cX8_office 2 = .ok (.invokevirtual 277, 3) := by decide +kernel
theorem dX8_office_5 : decode cX8_office 5 = .ok (.ifCond .eq 24, 3) := by decide +kernel
theorem dX8_office_8 : decode cX8_office 8 = .ok (.iload_n 2, 1) := by decide +kernel
theorem dX8_office_9 : decode cX8_office 9 = .ok (.iload_n 3, 1) := by decide +kernel
theorem dX8_office_10 : decode cX8_office 10 = .ok (.invokestatic 417, 3) := by decide +kernel
theorem dX8_office_13 : decode cX8_office 13 = .ok (.ifCond .eq 16, 3) := by decide +kernel
theorem dX8_office_16 : decode cX8_office 16 = .ok (.iload 4, 2) := by decide +kernel
theorem dX8_office_18 : decode cX8_office 18 = .ok (.i2l, 1) := by decide +kernel
theorem dX8_office_19 : decode cX8_office 19 = .ok (.lconst 0, 1) := by decide +kernel
theorem dX8_office_20 : decode cX8_office 20 = .ok (.ldc2_w 317, 3) := by decide +kernel
theorem dX8_office_23 : decode cX8_office 23 = .ok (.invokestatic 147, 3) := by decide +kernel
theorem dX8_office_26 : decode cX8_office 26 = .ok (.ifCond .ne 5, 3) := by decide +kernel
theorem dX8_office_29 : decode cX8_office 29 = .ok (.iconst (-1), 1) := by decide +kernel
theorem dX8_office_30 : decode cX8_office 30 = .ok (.ireturn, 1) := by decide +kernel
theorem dX8_office_31 : decode cX8_office 31 = .ok (.aload_n 0, 1) := by decide +kernel
theorem dX8_office_32 : decode cX8_office 32 = .ok (.aload_n 0, 1) := by decide +kernel
theorem dX8_office_33 : decode cX8_office 33 = .ok (.getfield 63, 3) := by decide +kernel
theorem dX8_office_36 : decode cX8_office 36 = .ok (.iload_n 1, 1) := by decide +kernel
theorem dX8_office_37 : decode cX8_office 37 = .ok (.aaload, 1) := by decide +kernel
theorem dX8_office_38 : decode cX8_office 38 = .ok (.bipush 7, 2) := by decide +kernel
theorem dX8_office_40 : decode cX8_office 40 = .ok (.iaload, 1) := by decide +kernel
theorem dX8_office_41 : decode cX8_office 41 = .ok (.aload_n 0, 1) := by decide +kernel
theorem dX8_office_42 : decode cX8_office 42 = .ok (.getfield 63, 3) := by decide +kernel
theorem dX8_office_45 : decode cX8_office 45 = .ok (.iload_n 1, 1) := by decide +kernel
theorem dX8_office_46 : decode cX8_office 46 = .ok (.aaload, 1) := by decide +kernel
theorem dX8_office_47 : decode cX8_office 47 = .ok (.bipush 8, 2) := by decide +kernel
theorem dX8_office_49 : decode cX8_office 49 = .ok (.iaload, 1) := by decide +kernel
theorem dX8_office_50 : decode cX8_office 50 = .ok (.iload_n 2, 1) := by decide +kernel
theorem dX8_office_51 : decode cX8_office 51 = .ok (.iload_n 3, 1) := by decide +kernel
theorem dX8_office_52 : decode cX8_office 52 = .ok (.invokevirtual 420, 3) := by decide +kernel
theorem dX8_office_55 : decode cX8_office 55 = .ok (.aload_n 0, 1) := by decide +kernel
theorem dX8_office_56 : decode cX8_office 56 = .ok (.getfield 105, 3) := by decide +kernel
theorem dX8_office_59 : decode cX8_office 59 = .ok (.iconst 4, 1) := by decide +kernel
theorem dX8_office_60 : decode cX8_office 60 = .ok (.aload_n 0, 1) := by decide +kernel
theorem dX8_office_61 : decode cX8_office 61 = .ok (.getfield 63, 3) := by decide +kernel
theorem dX8_office_64 : decode cX8_office 64 = .ok (.iload_n 1, 1) := by decide +kernel
theorem dX8_office_65 : decode cX8_office 65 = .ok (.aaload, 1) := by decide +kernel
theorem dX8_office_66 : decode cX8_office 66 = .ok (.iconst 1, 1) := by decide +kernel
theorem dX8_office_67 : decode cX8_office 67 = .ok (.iaload, 1) := by decide +kernel
theorem dX8_office_68 : decode cX8_office 68 = .ok (.iastore, 1) := by decide +kernel
theorem dX8_office_69 : decode cX8_office 69 = .ok (.aload_n 0, 1) := by decide +kernel
theorem dX8_office_70 : decode cX8_office 70 = .ok (.getfield 105, 3) := by decide +kernel
theorem dX8_office_73 : decode cX8_office 73 = .ok (.iconst 5, 1) := by decide +kernel
theorem dX8_office_74 : decode cX8_office 74 = .ok (.aload_n 0, 1) := by decide +kernel
theorem dX8_office_75 : decode cX8_office 75 = .ok (.getfield 63, 3) := by decide +kernel
theorem dX8_office_78 : decode cX8_office 78 = .ok (.iload_n 1, 1) := by decide +kernel
theorem dX8_office_79 : decode cX8_office 79 = .ok (.aaload, 1) := by decide +kernel
theorem dX8_office_80 : decode cX8_office 80 = .ok (.iconst 3, 1) := by decide +kernel
theorem dX8_office_81 : decode cX8_office 81 = .ok (.iaload, 1) := by decide +kernel
theorem dX8_office_82 : decode cX8_office 82 = .ok (.iastore, 1) := by decide +kernel
theorem dX8_office_83 : decode cX8_office 83 = .ok (.aload_n 0, 1) := by decide +kernel
theorem dX8_office_84 : decode cX8_office 84 = .ok (.getfield 105, 3) := by decide +kernel
theorem dX8_office_87 : decode cX8_office 87 = .ok (.bipush 6, 2) := by decide +kernel
theorem dX8_office_89 : decode cX8_office 89 = .ok (.aload_n 0, 1) := by decide +kernel
theorem dX8_office_90 : decode cX8_office 90 = .ok (.getfield 63, 3) := by decide +kernel
theorem dX8_office_93 : decode cX8_office 93 = .ok (.iload_n 1, 1) := by decide +kernel
theorem dX8_office_94 : decode cX8_office 94 = .ok (.aaload, 1) := by decide +kernel
theorem dX8_office_95 : decode cX8_office 95 = .ok (.iconst 4, 1) := by decide +kernel
theorem dX8_office_96 : decode cX8_office 96 = .ok (.iaload, 1) := by decide +kernel
theorem dX8_office_97 : decode cX8_office 97 = .ok (.iastore, 1) := by decide +kernel
theorem dX8_office_98 : decode cX8_office 98 = .ok (.iconst (-1), 1) := by decide +kernel
theorem dX8_office_99 : decode cX8_office 99 = .ok (.istore 5, 2) := by decide +kernel
theorem dX8_office_101 : decode cX8_office 101 = .ok (.aload_n 0, 1) := by decide +kernel
theorem dX8_office_102 : decode cX8_office 102 = .ok (.getfield 92, 3) := by decide +kernel
theorem dX8_office_105 : decode cX8_office 105 = .ok (.iconst 0, 1) := by decide +kernel
theorem dX8_office_106 : decode cX8_office 106 = .ok (.iaload, 1) := by decide +kernel
theorem dX8_office_107 : decode cX8_office 107 = .ok (.iconst 1, 1) := by decide +kernel
theorem dX8_office_108 : decode cX8_office 108 = .ok (.isub, 1) := by decide +kernel
theorem dX8_office_109 : decode cX8_office 109 = .ok (.istore 6, 2) := by decide +kernel
theorem dX8_office_111 : decode cX8_office 111 = .ok (.iload 6, 2) := by decide +kernel
theorem dX8_office_113 : decode cX8_office 113 = .ok (.ifCond .lt 23, 3) := by decide +kernel
theorem dX8_office_116 : decode cX8_office 116 = .ok (.aload_n 0, 1) := by decide +kernel
theorem dX8_office_117 : decode cX8_office 117 = .ok (.iload 6, 2) := by decide +kernel
theorem dX8_office_119 : decode cX8_office 119 = .ok (.invokevirtual 424, 3) := by decide +kernel
theorem dX8_office_122 : decode cX8_office 122 = .ok (.iconst 1, 1) := by decide +kernel
theorem dX8_office_123 : decode cX8_office 123 = .ok (.if_icmp .ne 7, 3) := by decide +kernel
theorem dX8_office_126 : decode cX8_office 126 = .ok (.iload 6, 2) := by decide +kernel
theorem dX8_office_128 : decode cX8_office 128 = .ok (.istore 5, 2) := by decide +kernel
theorem dX8_office_130 : decode cX8_office 130 = .ok (.iinc 6 (-1), 3) := by decide +kernel
theorem dX8_office_133 : decode cX8_office 133 = .ok (.goto (-22), 3) := by decide +kernel
theorem dX8_office_136 : decode cX8_office 136 = .ok (.iload 5, 2) := by decide +kernel
theorem dX8_office_138 : decode cX8_office 138 = .ok (.iconst (-1), 1) := by decide +kernel
theorem dX8_office_139 : decode cX8_office 139 = .ok (.if_icmp .ne 7, 3) := by decide +kernel
theorem dX8_office_142 : decode cX8_office 142 = .ok (.iconst 0, 1) := by decide +kernel
theorem dX8_office_143 : decode cX8_office 143 = .ok (.goto 12, 3) := by decide +kernel
theorem dX8_office_146 : decode cX8_office 146 = .ok (.aload_n 0, 1) := by decide +kernel
theorem dX8_office_147 : decode cX8_office 147 = .ok (.getfield 89, 3) := by decide +kernel
theorem dX8_office_150 : decode cX8_office 150 = .ok (.iconst 0, 1) := by decide +kernel
theorem dX8_office_151 : decode cX8_office 151 = .ok (.aaload, 1) := by decide +kernel
theorem dX8_office_152 : decode cX8_office 152 = .ok (.iload 5, 2) := by decide +kernel
theorem dX8_office_154 : decode cX8_office 154 = .ok (.iaload, 1) := by decide +kernel
theorem dX8_office_155 : decode cX8_office 155 = .ok (.istore 6, 2) := by decide +kernel
theorem dX8_office_157 : decode cX8_office 157 = .ok (.iload 4, 2) := by decide +kernel
theorem dX8_office_159 : decode cX8_office 159 = .ok (.iconst 2, 1) := by decide +kernel
theorem dX8_office_160 : decode cX8_office 160 = .ok (.if_icmp .ge 16, 3) := by decide +kernel
theorem dX8_office_163 : decode cX8_office 163 = .ok (.iload 4, 2) := by decide +kernel
theorem dX8_office_165 : decode cX8_office 165 = .ok (.ifCond .ne 8, 3) := by decide +kernel
theorem dX8_office_168 : decode cX8_office 168 = .ok (.iload 6, 2) := by decide +kernel
theorem dX8_office_170 : decode cX8_office 170 = .ok (.goto 5, 3) := by decide +kernel
theorem dX8_office_173 : decode cX8_office 173 = .ok (.iload 5, 2) := by decide +kernel
theorem dX8_office_175 : decode cX8_office 175 = .ok (.ireturn, 1) := by decide +kernel
theorem dX8_office_176 : decode cX8_office 176 = .ok (.aload_n 0, 1) := by decide +kernel
theorem dX8_office_177 : decode cX8_office 177 = .ok (.iload_n 1, 1) := by decide +kernel
theorem dX8_office_178 : decode cX8_office 178 = .ok (.invokevirtual 289, 3) := by decide +kernel
theorem dX8_office_181 : decode cX8_office 181 = .ok (.istore 7, 2) := by decide +kernel
theorem dX8_office_183 : decode cX8_office 183 = .ok (.iconst 0, 1) := by decide +kernel
theorem dX8_office_184 : decode cX8_office 184 = .ok (.istore 8, 2) := by decide +kernel
theorem dX8_office_186 : decode cX8_office 186 = .ok (.iconst 0, 1) := by decide +kernel
theorem dX8_office_187 : decode cX8_office 187 = .ok (.istore 9, 2) := by decide +kernel
theorem dX8_office_189 : decode cX8_office 189 = .ok (.iload 9, 2) := by decide +kernel
theorem dX8_office_191 : decode cX8_office 191 = .ok (.aload_n 0, 1) := by decide +kernel
theorem dX8_office_192 : decode cX8_office 192 = .ok (.getfield 183, 3) := by decide +kernel
theorem dX8_office_195 : decode cX8_office 195 = .ok (.if_icmp .ge 44, 3) := by decide +kernel
theorem dX8_office_198 : decode cX8_office 198 = .ok (.iload 8, 2) := by decide +kernel
theorem dX8_office_200 : decode cX8_office 200 = .ok (.ifCond .ne 26, 3) := by decide +kernel
theorem dX8_office_203 : decode cX8_office 203 = .ok (.iload 7, 2) := by decide +kernel
theorem dX8_office_205 : decode cX8_office 205 = .ok (.iload 9, 2) := by decide +kernel
theorem dX8_office_207 : decode cX8_office 207 = .ok (.ishr, 1) := by decide +kernel
theorem dX8_office_208 : decode cX8_office 208 = .ok (.iconst 1, 1) := by decide +kernel
theorem dX8_office_209 : decode cX8_office 209 = .ok (.iand, 1) := by decide +kernel
theorem dX8_office_210 : decode cX8_office 210 = .ok (.iconst 1, 1) := by decide +kernel
theorem dX8_office_211 : decode cX8_office 211 = .ok (.if_icmp .ne 19, 3) := by decide +kernel
theorem dX8_office_214 : decode cX8_office 214 = .ok (.aload_n 0, 1) := by decide +kernel
theorem dX8_office_215 : decode cX8_office 215 = .ok (.getfield 31, 3) := by decide +kernel
theorem dX8_office_218 : decode cX8_office 218 = .ok (.iload 9, 2) := by decide +kernel
theorem dX8_office_220 : decode cX8_office 220 = .ok (.iaload, 1) := by decide +kernel
theorem dX8_office_221 : decode cX8_office 221 = .ok (.iload 6, 2) := by decide +kernel
theorem dX8_office_223 : decode cX8_office 223 = .ok (.if_icmp .ne 7, 3) := by decide +kernel
theorem dX8_office_226 : decode cX8_office 226 = .ok (.iconst 1, 1) := by decide +kernel
theorem dX8_office_227 : decode cX8_office 227 = .ok (.goto 4, 3) := by decide +kernel
theorem dX8_office_230 : decode cX8_office 230 = .ok (.iconst 0, 1) := by decide +kernel
theorem dX8_office_231 : decode cX8_office 231 = .ok (.istore 8, 2) := by decide +kernel
theorem dX8_office_233 : decode cX8_office 233 = .ok (.iinc 9 1, 3) := by decide +kernel
theorem dX8_office_236 : decode cX8_office 236 = .ok (.goto (-47), 3) := by decide +kernel
theorem dX8_office_239 : decode cX8_office 239 = .ok (.iload 7, 2) := by decide +kernel
theorem dX8_office_241 : decode cX8_office 241 = .ok (.ifCond .eq 12, 3) := by decide +kernel
theorem dX8_office_244 : decode cX8_office 244 = .ok (.iload 8, 2) := by decide +kernel
theorem dX8_office_246 : decode cX8_office 246 = .ok (.ifCond .ne 7, 3) := by decide +kernel
theorem dX8_office_249 : decode cX8_office 249 = .ok (.iconst 1, 1) := by decide +kernel
theorem dX8_office_250 : decode cX8_office 250 = .ok (.goto 4, 3) := by decide +kernel
theorem dX8_office_253 : decode cX8_office 253 = .ok (.iconst 0, 1) := by decide +kernel
theorem dX8_office_254 : decode cX8_office 254 = .ok (.ireturn, 1) := by decide +kernel
set_option maxHeartbeats 4000000 in
set_option maxRecDepth 100000 in
theorem t_X8_office {l : Launch} {g : zG} {d : Nat} {s : zS} (hR : zRok s) {p0 : Int32} {p1 : Int32} {p2 : Int32} {p3 : Int32} {K : Int32 → zS → Prop} (h : (zc l g d M_X8_isTelling [.ref 164, .int p0] s (zKz (fun b2 s1 => s1.2.2.1 = s.2.2.1 ∧ (if b2 = true then (zc l g d M_X8_areLater [.int p1, .int p2] s1 (zKz (fun b4 s3 => s3.2.2.1 = s1.2.2.1 ∧ (if b4 = true then (if (zinr p3.toInt64 (0 : Int64) (2 : Int64)) = true then (vp_in p0 60 ∧ (vp_in p0 60 ∧ (zc l g d M_X8_lays [.ref 164, .int (s3.1 (183 + p0.toNatClampNeg) 7), .int (s3.1 (183 + p0.toNatClampNeg) 8), .int p1, .int p2] s3 (zKv (fun s7 => s7.2.2.1 = s3.2.2.1 ∧ (vp_in p0 60 ∧ (vp_in p0 60 ∧ (vp_in p0 60 ∧ (∀ v11 : Int32, v11 = (s7.1 257 0) - (1 : Int32) → zt l g (d + 1) M_X8_office 111 [.ref 164, .int p0, zJ, zJ, .int p3, .int (-1 : Int32), .int v11, zJ, zJ, zJ] [] (zI (zI (zI s7 261 4 (s7.1 (183 + p0.toNatClampNeg) 1)) 261 5 (s7.1 (183 + p0.toNatClampNeg) 3)) 261 6 (s7.1 (183 + p0.toNatClampNeg) 4)) (zKi K)))))))))) else K (-1 : Int32) s3) else K (-1 : Int32) s3)))) else K (-1 : Int32) s1))))) : zc l g (d + 1) M_X8_office [.ref 164, .int p0, .int p1, .int p2, .int p3] s (zKi K) := by
  refine zCall_of k_X8_office (Nat.le_of_ble_eq_true rfl) (Nat.le_refl _) (fun _ => ?_)
  show zt l g (d + 1) M_X8_office 0 [.ref 164, .int p0, .int p1, .int p2, .int p3, zJ, zJ, zJ, zJ, zJ] [] s (zKi K)
  refine z_aload_n (i := 0) dX8_office_0 rfl rfl rfl ?_
  refine z_iload_n (i := 1) dX8_office_1 rfl rfl rfl ?_
  refine z_callV k_X8_isTelling m_X8_277 (zRec_of i_164) rfl h rfl (Nat.le_of_ble_eq_true rfl) dX8_office_2 zy200 rfl ?_
  rintro v s1 ⟨b2, rfl, hRs1, h⟩
  show zt l g (d + 1) M_X8_office 5 [.ref 164, .int p0, .int p1, .int p2, .int p3, zJ, zJ, zJ, zJ, zJ] [.int (zb b2)] s1 _
  refine z_ifb_eq (pt := 29) dX8_office_5 (by decide) rfl (fun c => ?_) (fun c => ?_)
  · have h := zif h (by rw [c]; exact Bool.false_ne_true)
    refine z_iconst (v := (-1 : Int32)) dX8_office_29 (by decide) rfl ?_
    exact z_ret (some (.int (-1 : Int32))) (Or.inr (Or.inl ⟨_, _, rfl, rfl, rfl, dX8_office_30⟩)) zN200 ⟨_, rfl, h⟩
  · have h := zit h c
    refine z_iload_n (i := 2) dX8_office_8 rfl rfl rfl ?_
    refine z_iload_n (i := 3) dX8_office_9 rfl rfl rfl ?_
    refine z_callS (as := [.int p1, .int p2]) k_X8_areLater m_X8_417 rfl h rfl (Nat.le_of_ble_eq_true rfl) dX8_office_10 zy200 rfl ?_
    rintro v s3 ⟨b4, rfl, hRs3, h⟩
    show zt l g (d + 1) M_X8_office 13 [.ref 164, .int p0, .int p1, .int p2, .int p3, zJ, zJ, zJ, zJ, zJ] [.int (zb b4)] s3 _
    refine z_ifb_eq (pt := 29) dX8_office_13 (by decide) rfl (fun c => ?_) (fun c => ?_)
    · have h := zif h (by rw [c]; exact Bool.false_ne_true)
      refine z_iconst (v := (-1 : Int32)) dX8_office_29 (by decide) rfl ?_
      exact z_ret (some (.int (-1 : Int32))) (Or.inr (Or.inl ⟨_, _, rfl, rfl, rfl, dX8_office_30⟩)) zN200 ⟨_, rfl, h⟩
    · have h := zit h c
      refine z_iload dX8_office_16 rfl rfl ?_
      refine z_i2l dX8_office_18 rfl ?_
      refine z_lconst (v := (0 : Int64)) dX8_office_19 (by decide) rfl ?_
      refine z_ldc2 (v := (2 : Int64)) q_X8_317 dX8_office_20 rfl ?_
      refine z_in m_X8_147 dX8_office_23 (Nat.le_of_ble_eq_true rfl) rfl ?_
      refine z_ifb_ne (pt := 31) dX8_office_26 (by decide) rfl (fun c => ?_) (fun c => ?_)
      · have h := zit h c
        refine z_aload_n (i := 0) dX8_office_31 rfl rfl rfl ?_
        refine z_aload_n (i := 0) dX8_office_32 rfl rfl rfl ?_
        refine z_getR (q := 182) f_X8_63 i_164 rfl (r_164_23 (zRok_of hRs3 (zRok_of hRs1 hR))) (by decide) dX8_office_33 rfl ?_
        refine z_iload_n (i := 1) dX8_office_36 rfl rfl rfl ?_
        obtain ⟨a5, h⟩ := h
        have wa5 := vin a5
        refine z_aald (q := 183 + p0.toNatClampNeg) (by decide) a_182 a5 (r_182 (zRok_of hRs3 (zRok_of hRs1 hR)) a5) (by omega) dX8_office_37 rfl ?_
        refine z_bipush (v := (7 : Int32)) dX8_office_38 (by decide) rfl ?_
        refine z_iald (x := s3.1 (183 + p0.toNatClampNeg) 7) rfl (a_row (p_182 a5)) (by unfold vp_in; decide) dX8_office_40 rfl ?_
        refine z_aload_n (i := 0) dX8_office_41 rfl rfl rfl ?_
        refine z_getR (q := 182) f_X8_63 i_164 rfl (r_164_23 (zRok_of hRs3 (zRok_of hRs1 hR))) (by decide) dX8_office_42 rfl ?_
        refine z_iload_n (i := 1) dX8_office_45 rfl rfl rfl ?_
        obtain ⟨a6, h⟩ := h
        have wa6 := vin a6
        refine z_aald (q := 183 + p0.toNatClampNeg) (by decide) a_182 a6 (r_182 (zRok_of hRs3 (zRok_of hRs1 hR)) a6) (by omega) dX8_office_46 rfl ?_
        refine z_bipush (v := (8 : Int32)) dX8_office_47 (by decide) rfl ?_
        refine z_iald (x := s3.1 (183 + p0.toNatClampNeg) 8) rfl (a_row (p_182 a6)) (by unfold vp_in; decide) dX8_office_49 rfl ?_
        refine z_iload_n (i := 2) dX8_office_50 rfl rfl rfl ?_
        refine z_iload_n (i := 3) dX8_office_51 rfl rfl rfl ?_
        refine z_callV k_X8_lays m_X8_420 (zRec_of i_164) rfl h rfl (Nat.le_of_ble_eq_true rfl) dX8_office_52 zy200 rfl ?_
        rintro v s7 ⟨rfl, hRs7, h⟩
        show zt l g (d + 1) M_X8_office 55 [.ref 164, .int p0, .int p1, .int p2, .int p3, zJ, zJ, zJ, zJ, zJ] [] s7 _
        refine z_aload_n (i := 0) dX8_office_55 rfl rfl rfl ?_
        refine z_getR (q := 261) f_X8_105 i_164 rfl (r_164_41 (zRok_of hRs7 (zRok_of hRs3 (zRok_of hRs1 hR)))) (by decide) dX8_office_56 rfl ?_
        refine z_iconst (v := (4 : Int32)) dX8_office_59 (by decide) rfl ?_
        refine z_aload_n (i := 0) dX8_office_60 rfl rfl rfl ?_
        refine z_getR (q := 182) f_X8_63 i_164 rfl (r_164_23 (zRok_of hRs7 (zRok_of hRs3 (zRok_of hRs1 hR)))) (by decide) dX8_office_61 rfl ?_
        refine z_iload_n (i := 1) dX8_office_64 rfl rfl rfl ?_
        obtain ⟨a8, h⟩ := h
        have wa8 := vin a8
        refine z_aald (q := 183 + p0.toNatClampNeg) (by decide) a_182 a8 (r_182 (zRok_of hRs7 (zRok_of hRs3 (zRok_of hRs1 hR))) a8) (by omega) dX8_office_65 rfl ?_
        refine z_iconst (v := (1 : Int32)) dX8_office_66 (by decide) rfl ?_
        refine z_iald (x := s7.1 (183 + p0.toNatClampNeg) 1) rfl (a_row (p_182 a8)) (by unfold vp_in; decide) dX8_office_67 rfl ?_
        refine z_iast a_261 (by unfold vp_in; decide) dX8_office_68 rfl ?_
        show zt l g (d + 1) M_X8_office 69 [.ref 164, .int p0, .int p1, .int p2, .int p3, zJ, zJ, zJ, zJ, zJ] [] (zI s7 261 4 (s7.1 (183 + p0.toNatClampNeg) 1)) _
        refine z_aload_n (i := 0) dX8_office_69 rfl rfl rfl ?_
        refine z_getR (q := 261) f_X8_105 i_164 rfl (r_164_41 (zRok_of hRs7 (zRok_of hRs3 (zRok_of hRs1 hR)))) (by decide) dX8_office_70 rfl ?_
        refine z_iconst (v := (5 : Int32)) dX8_office_73 (by decide) rfl ?_
        refine z_aload_n (i := 0) dX8_office_74 rfl rfl rfl ?_
        refine z_getR (q := 182) f_X8_63 i_164 rfl (r_164_23 (zRok_of hRs7 (zRok_of hRs3 (zRok_of hRs1 hR)))) (by decide) dX8_office_75 rfl ?_
        refine z_iload_n (i := 1) dX8_office_78 rfl rfl rfl ?_
        obtain ⟨a9, h⟩ := h
        have wa9 := vin a9
        refine z_aald (q := 183 + p0.toNatClampNeg) (by decide) a_182 a9 (r_182 (zRok_of hRs7 (zRok_of hRs3 (zRok_of hRs1 hR))) a9) (by omega) dX8_office_79 rfl ?_
        refine z_iconst (v := (3 : Int32)) dX8_office_80 (by decide) rfl ?_
        refine z_iald (x := s7.1 (183 + p0.toNatClampNeg) 3) (zI_k (by decide)) (a_row (p_182 a9)) (by unfold vp_in; decide) dX8_office_81 rfl ?_
        refine z_iast a_261 (by unfold vp_in; decide) dX8_office_82 rfl ?_
        show zt l g (d + 1) M_X8_office 83 [.ref 164, .int p0, .int p1, .int p2, .int p3, zJ, zJ, zJ, zJ, zJ] [] (zI (zI s7 261 4 (s7.1 (183 + p0.toNatClampNeg) 1)) 261 5 (s7.1 (183 + p0.toNatClampNeg) 3)) _
        refine z_aload_n (i := 0) dX8_office_83 rfl rfl rfl ?_
        refine z_getR (q := 261) f_X8_105 i_164 rfl (r_164_41 (zRok_of hRs7 (zRok_of hRs3 (zRok_of hRs1 hR)))) (by decide) dX8_office_84 rfl ?_
        refine z_bipush (v := (6 : Int32)) dX8_office_87 (by decide) rfl ?_
        refine z_aload_n (i := 0) dX8_office_89 rfl rfl rfl ?_
        refine z_getR (q := 182) f_X8_63 i_164 rfl (r_164_23 (zRok_of hRs7 (zRok_of hRs3 (zRok_of hRs1 hR)))) (by decide) dX8_office_90 rfl ?_
        refine z_iload_n (i := 1) dX8_office_93 rfl rfl rfl ?_
        obtain ⟨a10, h⟩ := h
        have wa10 := vin a10
        refine z_aald (q := 183 + p0.toNatClampNeg) (by decide) a_182 a10 (r_182 (zRok_of hRs7 (zRok_of hRs3 (zRok_of hRs1 hR))) a10) (by omega) dX8_office_94 rfl ?_
        refine z_iconst (v := (4 : Int32)) dX8_office_95 (by decide) rfl ?_
        refine z_iald (x := s7.1 (183 + p0.toNatClampNeg) 4) ((zI_k (by decide)).trans (zI_o (by omega))) (a_row (p_182 a10)) (by unfold vp_in; decide) dX8_office_96 rfl ?_
        refine z_iast a_261 (by unfold vp_in; decide) dX8_office_97 rfl ?_
        show zt l g (d + 1) M_X8_office 98 [.ref 164, .int p0, .int p1, .int p2, .int p3, zJ, zJ, zJ, zJ, zJ] [] (zI (zI (zI s7 261 4 (s7.1 (183 + p0.toNatClampNeg) 1)) 261 5 (s7.1 (183 + p0.toNatClampNeg) 3)) 261 6 (s7.1 (183 + p0.toNatClampNeg) 4)) _
        refine z_iconst (v := (-1 : Int32)) dX8_office_98 (by decide) rfl ?_
        refine z_istore dX8_office_99 (by decide) (zokd rfl) rfl ?_
        show zt l g (d + 1) M_X8_office 101 [.ref 164, .int p0, .int p1, .int p2, .int p3, .int (-1 : Int32), zJ, zJ, zJ, zJ] [] (zI (zI (zI s7 261 4 (s7.1 (183 + p0.toNatClampNeg) 1)) 261 5 (s7.1 (183 + p0.toNatClampNeg) 3)) 261 6 (s7.1 (183 + p0.toNatClampNeg) 4)) _
        refine z_aload_n (i := 0) dX8_office_101 rfl rfl rfl ?_
        refine z_getR (q := 257) f_X8_92 i_164 rfl (r_164_37 (zRok_of hRs7 (zRok_of hRs3 (zRok_of hRs1 hR)))) (by decide) dX8_office_102 rfl ?_
        refine z_iconst (v := (0 : Int32)) dX8_office_105 (by decide) rfl ?_
        refine z_iald (x := s7.1 257 0) ((zI_k (by decide)).trans ((zI_k (by decide)).trans (zI_k (by decide)))) a_257 (by unfold vp_in; decide) dX8_office_106 rfl ?_
        refine z_iconst (v := (1 : Int32)) dX8_office_107 (by decide) rfl ?_
        refine z_isub dX8_office_108 rfl ?_
        refine z_istore dX8_office_109 (by decide) (zokd rfl) rfl ?_
        obtain ⟨v11, ev11⟩ : ∃ x : Int32, x = (s7.1 257 0) - (1 : Int32) := ⟨_, rfl⟩
        rw [← ev11]
        have h := h v11 ev11
        show zt l g (d + 1) M_X8_office 111 [.ref 164, .int p0, .int p1, .int p2, .int p3, .int (-1 : Int32), .int v11, zJ, zJ, zJ] [] (zI (zI (zI s7 261 4 (s7.1 (183 + p0.toNatClampNeg) 1)) 261 5 (s7.1 (183 + p0.toNatClampNeg) 3)) 261 6 (s7.1 (183 + p0.toNatClampNeg) 4)) _
        refine z_wk (ls' := [.ref 164, .int p0, zJ, zJ, .int p3, .int (-1 : Int32), .int v11, zJ, zJ, zJ]) ⟨Or.inr rfl, Or.inr rfl, Or.inl rfl, Or.inl rfl, Or.inr rfl, Or.inr rfl, Or.inr rfl, Or.inr rfl, Or.inr rfl, Or.inr rfl, trivial⟩ ?_
        exact h
      · have h := zif h (by rw [c]; exact Bool.false_ne_true)
        refine z_iconst (v := (-1 : Int32)) dX8_office_29 (by decide) rfl ?_
        exact z_ret (some (.int (-1 : Int32))) (Or.inr (Or.inl ⟨_, _, rfl, rfl, rfl, dX8_office_30⟩)) zN200 ⟨_, rfl, h⟩
set_option maxHeartbeats 4000000 in
set_option maxRecDepth 100000 in
theorem t_X8_office_111 {l : Launch} {g : zG} {d : Nat} {s : zS} (hR : zRok s) {x1 : Int32} {x4 : Int32} {x5 : Int32} {x6 : Int32} {K : Int32 → zS → Prop} (h : (if x6 < 0 then (if x5 = (-1 : Int32) then (if (2 : Int32) ≤ x4 then (zc l g d M_X8_fitting [.ref 164, .int x1] s (zKi (fun r5 s4 => s4.2.2.1 = s.2.2.1 ∧ zt l g (d + 1) M_X8_office 189 [.ref 164, zJ, zJ, zJ, zJ, zJ, .int (0 : Int32), .int r5, .int (0 : Int32), .int (0 : Int32)] [] s4 (zKi K)))) else (if x4 = 0 then K (0 : Int32) s else K x5 s)) else (vp_in x5 13 ∧ (if (2 : Int32) ≤ x4 then (zc l g d M_X8_fitting [.ref 164, .int x1] s (zKi (fun r3 s2 => s2.2.2.1 = s.2.2.1 ∧ zt l g (d + 1) M_X8_office 189 [.ref 164, zJ, zJ, zJ, zJ, zJ, .int (s.1 255 x5.toNatClampNeg), .int r3, .int (0 : Int32), .int (0 : Int32)] [] s2 (zKi K)))) else (if x4 = 0 then K (s.1 255 x5.toNatClampNeg) s else K x5 s)))) else (zc l g d M_X8_worked [.ref 164, .int x6] s (zKi (fun r7 s6 => s6.2.2.1 = s.2.2.1 ∧ (if r7 = (1 : Int32) then zt l g (d + 1) M_X8_office 111 [.ref 164, .int x1, zJ, zJ, .int x4, .int x6, .int (x6 - (1 : Int32)), zJ, zJ, zJ] [] s6 (zKi K) else zt l g (d + 1) M_X8_office 111 [.ref 164, .int x1, zJ, zJ, .int x4, .int x5, .int (x6 - (1 : Int32)), zJ, zJ, zJ] [] s6 (zKi K))))))) : zt l g (d + 1) M_X8_office 111 [.ref 164, .int x1, zJ, zJ, .int x4, .int x5, .int x6, zJ, zJ, zJ] [] s (zKi K) := by
  refine z_iload dX8_office_111 rfl rfl ?_
  refine z_if_lt (pt := 136) dX8_office_113 (by decide) rfl (fun c => ?_) (fun c => ?_)
  · have h := zit h c
    refine z_iload dX8_office_136 rfl rfl ?_
    refine z_iconst (v := (-1 : Int32)) dX8_office_138 (by decide) rfl ?_
    refine z_icmp_ne (pt := 146) dX8_office_139 (by decide) rfl (fun c => ?_) (fun c => ?_)
    · have h := zif h c
      refine z_aload_n (i := 0) dX8_office_146 rfl rfl rfl ?_
      refine z_getR (q := 254) f_X8_89 i_164 rfl (r_164_36 hR) (by decide) dX8_office_147 rfl ?_
      refine z_iconst (v := (0 : Int32)) dX8_office_150 (by decide) rfl ?_
      refine z_aald (q := 255) (by decide) a_254 (by unfold vp_in; decide) (by have := hR.1 254 0 (by decide); exact this) (by decide) dX8_office_151 rfl ?_
      refine z_iload dX8_office_152 rfl rfl ?_
      obtain ⟨a1, h⟩ := h
      have wa1 := vin a1
      refine z_iald (x := s.1 255 x5.toNatClampNeg) rfl a_255 a1 dX8_office_154 rfl ?_
      refine z_istore dX8_office_155 (by decide) (zokd rfl) rfl ?_
      show zt l g (d + 1) M_X8_office 157 [.ref 164, .int x1, zJ, zJ, .int x4, .int x5, .int (s.1 255 x5.toNatClampNeg), zJ, zJ, zJ] [] s _
      refine z_iload dX8_office_157 rfl rfl ?_
      refine z_iconst (v := (2 : Int32)) dX8_office_159 (by decide) rfl ?_
      refine z_icmp_ge (pt := 176) dX8_office_160 (by decide) rfl (fun c => ?_) (fun c => ?_)
      · have h := zit h c
        refine z_aload_n (i := 0) dX8_office_176 rfl rfl rfl ?_
        refine z_iload_n (i := 1) dX8_office_177 rfl rfl rfl ?_
        refine z_callV k_X8_fitting m_X8_289 (zRec_of i_164) rfl h rfl (Nat.le_of_ble_eq_true rfl) dX8_office_178 zy200 rfl ?_
        rintro v s2 ⟨r3, rfl, hRs2, h⟩
        show zt l g (d + 1) M_X8_office 181 [.ref 164, .int x1, zJ, zJ, .int x4, .int x5, .int (s.1 255 x5.toNatClampNeg), zJ, zJ, zJ] [.int r3] s2 _
        refine z_istore dX8_office_181 (by decide) (zokd rfl) rfl ?_
        show zt l g (d + 1) M_X8_office 183 [.ref 164, .int x1, zJ, zJ, .int x4, .int x5, .int (s.1 255 x5.toNatClampNeg), .int r3, zJ, zJ] [] s2 _
        refine z_iconst (v := (0 : Int32)) dX8_office_183 (by decide) rfl ?_
        refine z_istore dX8_office_184 (by decide) (zokd rfl) rfl ?_
        show zt l g (d + 1) M_X8_office 186 [.ref 164, .int x1, zJ, zJ, .int x4, .int x5, .int (s.1 255 x5.toNatClampNeg), .int r3, .int (0 : Int32), zJ] [] s2 _
        refine z_iconst (v := (0 : Int32)) dX8_office_186 (by decide) rfl ?_
        refine z_istore dX8_office_187 (by decide) (zokd rfl) rfl ?_
        show zt l g (d + 1) M_X8_office 189 [.ref 164, .int x1, zJ, zJ, .int x4, .int x5, .int (s.1 255 x5.toNatClampNeg), .int r3, .int (0 : Int32), .int (0 : Int32)] [] s2 _
        refine z_wk (ls' := [.ref 164, zJ, zJ, zJ, zJ, zJ, .int (s.1 255 x5.toNatClampNeg), .int r3, .int (0 : Int32), .int (0 : Int32)]) ⟨Or.inr rfl, Or.inl rfl, Or.inr rfl, Or.inr rfl, Or.inl rfl, Or.inl rfl, Or.inr rfl, Or.inr rfl, Or.inr rfl, Or.inr rfl, trivial⟩ ?_
        exact h
      · have h := zif h c
        refine z_iload dX8_office_163 rfl rfl ?_
        refine z_if_ne (pt := 173) dX8_office_165 (by decide) rfl (fun c => ?_) (fun c => ?_)
        · have h := zif h c
          refine z_iload dX8_office_173 rfl rfl ?_
          exact z_ret (some (.int x5)) (Or.inr (Or.inl ⟨_, _, rfl, rfl, rfl, dX8_office_175⟩)) zN200 ⟨_, rfl, h⟩
        · have h := zit h c
          refine z_iload dX8_office_168 rfl rfl ?_
          refine z_goto (pn := 175) dX8_office_170 (by decide) ?_
          exact z_ret (some (.int (s.1 255 x5.toNatClampNeg))) (Or.inr (Or.inl ⟨_, _, rfl, rfl, rfl, dX8_office_175⟩)) zN200 ⟨_, rfl, h⟩
    · have h := zit h c
      refine z_iconst (v := (0 : Int32)) dX8_office_142 (by decide) rfl ?_
      refine z_goto (pn := 155) dX8_office_143 (by decide) ?_
      refine z_istore dX8_office_155 (by decide) (zokd rfl) rfl ?_
      show zt l g (d + 1) M_X8_office 157 [.ref 164, .int x1, zJ, zJ, .int x4, .int x5, .int (0 : Int32), zJ, zJ, zJ] [] s _
      refine z_iload dX8_office_157 rfl rfl ?_
      refine z_iconst (v := (2 : Int32)) dX8_office_159 (by decide) rfl ?_
      refine z_icmp_ge (pt := 176) dX8_office_160 (by decide) rfl (fun c => ?_) (fun c => ?_)
      · have h := zit h c
        refine z_aload_n (i := 0) dX8_office_176 rfl rfl rfl ?_
        refine z_iload_n (i := 1) dX8_office_177 rfl rfl rfl ?_
        refine z_callV k_X8_fitting m_X8_289 (zRec_of i_164) rfl h rfl (Nat.le_of_ble_eq_true rfl) dX8_office_178 zy200 rfl ?_
        rintro v s4 ⟨r5, rfl, hRs4, h⟩
        show zt l g (d + 1) M_X8_office 181 [.ref 164, .int x1, zJ, zJ, .int x4, .int x5, .int (0 : Int32), zJ, zJ, zJ] [.int r5] s4 _
        refine z_istore dX8_office_181 (by decide) (zokd rfl) rfl ?_
        show zt l g (d + 1) M_X8_office 183 [.ref 164, .int x1, zJ, zJ, .int x4, .int x5, .int (0 : Int32), .int r5, zJ, zJ] [] s4 _
        refine z_iconst (v := (0 : Int32)) dX8_office_183 (by decide) rfl ?_
        refine z_istore dX8_office_184 (by decide) (zokd rfl) rfl ?_
        show zt l g (d + 1) M_X8_office 186 [.ref 164, .int x1, zJ, zJ, .int x4, .int x5, .int (0 : Int32), .int r5, .int (0 : Int32), zJ] [] s4 _
        refine z_iconst (v := (0 : Int32)) dX8_office_186 (by decide) rfl ?_
        refine z_istore dX8_office_187 (by decide) (zokd rfl) rfl ?_
        show zt l g (d + 1) M_X8_office 189 [.ref 164, .int x1, zJ, zJ, .int x4, .int x5, .int (0 : Int32), .int r5, .int (0 : Int32), .int (0 : Int32)] [] s4 _
        refine z_wk (ls' := [.ref 164, zJ, zJ, zJ, zJ, zJ, .int (0 : Int32), .int r5, .int (0 : Int32), .int (0 : Int32)]) ⟨Or.inr rfl, Or.inl rfl, Or.inr rfl, Or.inr rfl, Or.inl rfl, Or.inl rfl, Or.inr rfl, Or.inr rfl, Or.inr rfl, Or.inr rfl, trivial⟩ ?_
        exact h
      · have h := zif h c
        refine z_iload dX8_office_163 rfl rfl ?_
        refine z_if_ne (pt := 173) dX8_office_165 (by decide) rfl (fun c => ?_) (fun c => ?_)
        · have h := zif h c
          refine z_iload dX8_office_173 rfl rfl ?_
          exact z_ret (some (.int x5)) (Or.inr (Or.inl ⟨_, _, rfl, rfl, rfl, dX8_office_175⟩)) zN200 ⟨_, rfl, h⟩
        · have h := zit h c
          refine z_iload dX8_office_168 rfl rfl ?_
          refine z_goto (pn := 175) dX8_office_170 (by decide) ?_
          exact z_ret (some (.int (0 : Int32))) (Or.inr (Or.inl ⟨_, _, rfl, rfl, rfl, dX8_office_175⟩)) zN200 ⟨_, rfl, h⟩
  · have h := zif h c
    refine z_aload_n (i := 0) dX8_office_116 rfl rfl rfl ?_
    refine z_iload dX8_office_117 rfl rfl ?_
    refine z_callV k_X8_worked m_X8_424 (zRec_of i_164) rfl h rfl (Nat.le_of_ble_eq_true rfl) dX8_office_119 zy200 rfl ?_
    rintro v s6 ⟨r7, rfl, hRs6, h⟩
    show zt l g (d + 1) M_X8_office 122 [.ref 164, .int x1, zJ, zJ, .int x4, .int x5, .int x6, zJ, zJ, zJ] [.int r7] s6 _
    refine z_iconst (v := (1 : Int32)) dX8_office_122 (by decide) rfl ?_
    refine z_icmp_ne (pt := 130) dX8_office_123 (by decide) rfl (fun c => ?_) (fun c => ?_)
    · have h := zif h c
      refine z_iinc (v := x6 - (1 : Int32)) dX8_office_130 rfl (zincn (by decide)) (by decide) (zokd rfl) rfl ?_
      show zt l g (d + 1) M_X8_office 133 [.ref 164, .int x1, zJ, zJ, .int x4, .int x5, .int (x6 - (1 : Int32)), zJ, zJ, zJ] [] s6 _
      refine z_goto (pn := 111) dX8_office_133 (by decide) ?_
      exact h
    · have h := zit h c
      refine z_iload dX8_office_126 rfl rfl ?_
      refine z_istore dX8_office_128 (by decide) (zokd rfl) rfl ?_
      show zt l g (d + 1) M_X8_office 130 [.ref 164, .int x1, zJ, zJ, .int x4, .int x6, .int x6, zJ, zJ, zJ] [] s6 _
      refine z_iinc (v := x6 - (1 : Int32)) dX8_office_130 rfl (zincn (by decide)) (by decide) (zokd rfl) rfl ?_
      show zt l g (d + 1) M_X8_office 133 [.ref 164, .int x1, zJ, zJ, .int x4, .int x6, .int (x6 - (1 : Int32)), zJ, zJ, zJ] [] s6 _
      refine z_goto (pn := 111) dX8_office_133 (by decide) ?_
      exact h
set_option maxHeartbeats 4000000 in
set_option maxRecDepth 100000 in
theorem t_X8_office_189 {l : Launch} {g : zG} {d : Nat} {s : zS} (hR : zRok s) {x6 : Int32} {x7 : Int32} {x8 : Int32} {x9 : Int32} {K : Int32 → zS → Prop} (h : (if (s.1 164 19) ≤ x9 then (if x7 = 0 then K (0 : Int32) s else (if x8 = 0 then K (1 : Int32) s else K (0 : Int32) s)) else (if x8 = 0 then (if ((x7 >>> (x9 &&& 31)) &&& (1 : Int32)) = (1 : Int32) then (vp_in x9 12 ∧ (if (s.1 172 x9.toNatClampNeg) = x6 then zt l g (d + 1) M_X8_office 189 [.ref 164, zJ, zJ, zJ, zJ, zJ, .int x6, .int x7, .int (1 : Int32), .int (x9 + (1 : Int32))] [] s (zKi K) else zt l g (d + 1) M_X8_office 189 [.ref 164, zJ, zJ, zJ, zJ, zJ, .int x6, .int x7, .int (0 : Int32), .int (x9 + (1 : Int32))] [] s (zKi K))) else zt l g (d + 1) M_X8_office 189 [.ref 164, zJ, zJ, zJ, zJ, zJ, .int x6, .int x7, .int (0 : Int32), .int (x9 + (1 : Int32))] [] s (zKi K)) else zt l g (d + 1) M_X8_office 189 [.ref 164, zJ, zJ, zJ, zJ, zJ, .int x6, .int x7, .int (1 : Int32), .int (x9 + (1 : Int32))] [] s (zKi K)))) : zt l g (d + 1) M_X8_office 189 [.ref 164, zJ, zJ, zJ, zJ, zJ, .int x6, .int x7, .int x8, .int x9] [] s (zKi K) := by
  refine z_iload dX8_office_189 rfl rfl ?_
  refine z_aload_n (i := 0) dX8_office_191 rfl rfl rfl ?_
  refine z_getI (x := s.1 164 19) rfl f_X8_183 i_164 rfl dX8_office_192 rfl ?_
  refine z_icmp_ge (pt := 239) dX8_office_195 (by decide) rfl (fun c => ?_) (fun c => ?_)
  · have h := zit h c
    refine z_iload dX8_office_239 rfl rfl ?_
    refine z_if_eq (pt := 253) dX8_office_241 (by decide) rfl (fun c => ?_) (fun c => ?_)
    · have h := zit h c
      refine z_iconst (v := (0 : Int32)) dX8_office_253 (by decide) rfl ?_
      exact z_ret (some (.int (0 : Int32))) (Or.inr (Or.inl ⟨_, _, rfl, rfl, rfl, dX8_office_254⟩)) zN200 ⟨_, rfl, h⟩
    · have h := zif h c
      refine z_iload dX8_office_244 rfl rfl ?_
      refine z_if_ne (pt := 253) dX8_office_246 (by decide) rfl (fun c => ?_) (fun c => ?_)
      · have h := zif h c
        refine z_iconst (v := (0 : Int32)) dX8_office_253 (by decide) rfl ?_
        exact z_ret (some (.int (0 : Int32))) (Or.inr (Or.inl ⟨_, _, rfl, rfl, rfl, dX8_office_254⟩)) zN200 ⟨_, rfl, h⟩
      · have h := zit h c
        refine z_iconst (v := (1 : Int32)) dX8_office_249 (by decide) rfl ?_
        refine z_goto (pn := 254) dX8_office_250 (by decide) ?_
        exact z_ret (some (.int (1 : Int32))) (Or.inr (Or.inl ⟨_, _, rfl, rfl, rfl, dX8_office_254⟩)) zN200 ⟨_, rfl, h⟩
  · have h := zif h c
    refine z_iload dX8_office_198 rfl rfl ?_
    refine z_if_ne (pt := 226) dX8_office_200 (by decide) rfl (fun c => ?_) (fun c => ?_)
    · have h := zif h c
      refine z_iconst (v := (1 : Int32)) dX8_office_226 (by decide) rfl ?_
      refine z_goto (pn := 231) dX8_office_227 (by decide) ?_
      refine z_istore dX8_office_231 (by decide) (zokd rfl) rfl ?_
      show zt l g (d + 1) M_X8_office 233 [.ref 164, zJ, zJ, zJ, zJ, zJ, .int x6, .int x7, .int (1 : Int32), .int x9] [] s _
      refine z_iinc (v := x9 + (1 : Int32)) dX8_office_233 rfl rfl (by decide) (zokd rfl) rfl ?_
      show zt l g (d + 1) M_X8_office 236 [.ref 164, zJ, zJ, zJ, zJ, zJ, .int x6, .int x7, .int (1 : Int32), .int (x9 + (1 : Int32))] [] s _
      refine z_goto (pn := 189) dX8_office_236 (by decide) ?_
      exact h
    · have h := zit h c
      refine z_iload dX8_office_203 rfl rfl ?_
      refine z_iload dX8_office_205 rfl rfl ?_
      refine z_ishr dX8_office_207 rfl ?_
      refine z_iconst (v := (1 : Int32)) dX8_office_208 (by decide) rfl ?_
      refine z_iand dX8_office_209 rfl ?_
      refine z_iconst (v := (1 : Int32)) dX8_office_210 (by decide) rfl ?_
      refine z_icmp_ne (pt := 230) dX8_office_211 (by decide) rfl (fun c => ?_) (fun c => ?_)
      · have h := zif h c
        refine z_iconst (v := (0 : Int32)) dX8_office_230 (by decide) rfl ?_
        refine z_istore dX8_office_231 (by decide) (zokd rfl) rfl ?_
        show zt l g (d + 1) M_X8_office 233 [.ref 164, zJ, zJ, zJ, zJ, zJ, .int x6, .int x7, .int (0 : Int32), .int x9] [] s _
        refine z_iinc (v := x9 + (1 : Int32)) dX8_office_233 rfl rfl (by decide) (zokd rfl) rfl ?_
        show zt l g (d + 1) M_X8_office 236 [.ref 164, zJ, zJ, zJ, zJ, zJ, .int x6, .int x7, .int (0 : Int32), .int (x9 + (1 : Int32))] [] s _
        refine z_goto (pn := 189) dX8_office_236 (by decide) ?_
        exact h
      · have h := zit h c
        refine z_aload_n (i := 0) dX8_office_214 rfl rfl rfl ?_
        refine z_getR (q := 172) f_X8_31 i_164 rfl (r_164_7 hR) (by decide) dX8_office_215 rfl ?_
        refine z_iload dX8_office_218 rfl rfl ?_
        obtain ⟨a1, h⟩ := h
        have wa1 := vin a1
        refine z_iald (x := s.1 172 x9.toNatClampNeg) rfl a_172 a1 dX8_office_220 rfl ?_
        refine z_iload dX8_office_221 rfl rfl ?_
        refine z_icmp_ne (pt := 230) dX8_office_223 (by decide) rfl (fun c => ?_) (fun c => ?_)
        · have h := zif h c
          refine z_iconst (v := (0 : Int32)) dX8_office_230 (by decide) rfl ?_
          refine z_istore dX8_office_231 (by decide) (zokd rfl) rfl ?_
          show zt l g (d + 1) M_X8_office 233 [.ref 164, zJ, zJ, zJ, zJ, zJ, .int x6, .int x7, .int (0 : Int32), .int x9] [] s _
          refine z_iinc (v := x9 + (1 : Int32)) dX8_office_233 rfl rfl (by decide) (zokd rfl) rfl ?_
          show zt l g (d + 1) M_X8_office 236 [.ref 164, zJ, zJ, zJ, zJ, zJ, .int x6, .int x7, .int (0 : Int32), .int (x9 + (1 : Int32))] [] s _
          refine z_goto (pn := 189) dX8_office_236 (by decide) ?_
          exact h
        · have h := zit h c
          refine z_iconst (v := (1 : Int32)) dX8_office_226 (by decide) rfl ?_
          refine z_goto (pn := 231) dX8_office_227 (by decide) ?_
          refine z_istore dX8_office_231 (by decide) (zokd rfl) rfl ?_
          show zt l g (d + 1) M_X8_office 233 [.ref 164, zJ, zJ, zJ, zJ, zJ, .int x6, .int x7, .int (1 : Int32), .int x9] [] s _
          refine z_iinc (v := x9 + (1 : Int32)) dX8_office_233 rfl rfl (by decide) (zokd rfl) rfl ?_
          show zt l g (d + 1) M_X8_office 236 [.ref 164, zJ, zJ, zJ, zJ, zJ, .int x6, .int x7, .int (1 : Int32), .int (x9 + (1 : Int32))] [] s _
          refine z_goto (pn := 189) dX8_office_236 (by decide) ?_
          exact h
theorem dX8_grownTo_0 : decode cX8_grownTo 0 = .ok (.aload_n 0, 1) := by decide +kernel
theorem dX8_grownTo_1 : decode cX8_grownTo 1 = .ok (.getfield 98, 3) := by decide +kernel
theorem dX8_grownTo_4 : decode cX8_grownTo 4 = .ok (.iconst 0, 1) := by decide +kernel
theorem dX8_grownTo_5 : decode cX8_grownTo 5 = .ok (.baload, 1) := by decide +kernel
theorem dX8_grownTo_6 : decode cX8_grownTo 6 = .ok (.ifCond .ne 5, 3) := by decide +kernel
theorem dX8_grownTo_9 : decode cX8_grownTo 9 = .ok (.iload_n 1, 1) := by decide +kernel
theorem dX8_grownTo_10 : decode cX8_grownTo 10 = .ok (.ireturn, 1) := by decide +kernel
theorem dX8_grownTo_11 : decode cX8_grownTo 11 = .ok (.aload_n 0, 1) := by decide +kernel
theorem dX8_grownTo_12 : decode cX8_grownTo 12 = .ok (.iload_n 1, 1) := by decide +kernel
theorem dX8_grownTo_13 : decode cX8_grownTo 13 = .ok (.iload_n 2, 1) := by decide +kernel
theorem dX8_grownTo_14 : decode cX8_grownTo 14 = .ok (.iload_n 3, 1) := by decide +kernel
theorem dX8_grownTo_15 : decode cX8_grownTo 15 = .ok (.iload 4, 2) := by decide +kernel
theorem dX8_grownTo_17 : decode cX8_grownTo 17 = .ok (.invokevirtual 420, 3) := by decide +kernel
theorem dX8_grownTo_20 : decode cX8_grownTo 20 = .ok (.iconst 1, 1) := by decide +kernel
theorem dX8_grownTo_21 : decode cX8_grownTo 21 = .ok (.bipush 99, 2) := by decide +kernel
theorem dX8_grownTo_23 : decode cX8_grownTo 23 = .ok (.aload_n 0, 1) := by decide +kernel
theorem dX8_grownTo_24 : decode cX8_grownTo 24 = .ok (.bipush 12, 2) := by decide +kernel
theorem dX8_grownTo_26 : decode cX8_grownTo 26 = .ok (.invokevirtual 424, 3) := by decide +kernel
theorem dX8_grownTo_29 : decode cX8_grownTo 29 = .ok (.invokestatic 165, 3) := by decide +kernel
theorem dX8_grownTo_32 : decode cX8_grownTo 32 = .ok (.invokestatic 171, 3) := by decide +kernel
theorem dX8_grownTo_35 : decode cX8_grownTo 35 = .ok (.ireturn, 1) := by decide +kernel
set_option maxHeartbeats 4000000 in
set_option maxRecDepth 100000 in
theorem t_X8_grownTo {l : Launch} {g : zG} {d : Nat} {s : zS} (hR : zRok s) {p0 : Int32} {p1 : Int32} {p2 : Int32} {p3 : Int32} {K : Int32 → zS → Prop} (h : (if (s.1 259 0) = 0 then K p0 s else (zc l g d M_X8_lays [.ref 164, .int p0, .int p1, .int p2, .int p3] s (zKv (fun s1 => s1.2.2.1 = s.2.2.1 ∧ (zc l g d M_X8_worked [.ref 164, .int (12 : Int32)] s1 (zKi (fun r3 s2 => s2.2.2.1 = s1.2.2.1 ∧ K (zmax (1 : Int32) (zmin (99 : Int32) r3)) s2)))))))) : zc l g (d + 1) M_X8_grownTo [.ref 164, .int p0, .int p1, .int p2, .int p3] s (zKi K) := by
  refine zCall_of k_X8_grownTo (Nat.le_of_ble_eq_true rfl) (Nat.le_refl _) (fun _ => ?_)
  show zt l g (d + 1) M_X8_grownTo 0 [.ref 164, .int p0, .int p1, .int p2, .int p3] [] s (zKi K)
  refine z_aload_n (i := 0) dX8_grownTo_0 rfl rfl rfl ?_
  refine z_getR (q := 259) f_X8_98 i_164 rfl (r_164_39 hR) (by decide) dX8_grownTo_1 rfl ?_
  refine z_iconst (v := (0 : Int32)) dX8_grownTo_4 (by decide) rfl ?_
  refine z_zald (x := s.1 259 0) rfl a_259 (by unfold vp_in; decide) dX8_grownTo_5 rfl ?_
  refine z_if_ne (pt := 11) dX8_grownTo_6 (by decide) rfl (fun c => ?_) (fun c => ?_)
  · have h := zif h c
    refine z_aload_n (i := 0) dX8_grownTo_11 rfl rfl rfl ?_
    refine z_iload_n (i := 1) dX8_grownTo_12 rfl rfl rfl ?_
    refine z_iload_n (i := 2) dX8_grownTo_13 rfl rfl rfl ?_
    refine z_iload_n (i := 3) dX8_grownTo_14 rfl rfl rfl ?_
    refine z_iload dX8_grownTo_15 rfl rfl ?_
    refine z_callV k_X8_lays m_X8_420 (zRec_of i_164) rfl h rfl (Nat.le_of_ble_eq_true rfl) dX8_grownTo_17 zy200 rfl ?_
    rintro v s1 ⟨rfl, hRs1, h⟩
    show zt l g (d + 1) M_X8_grownTo 20 [.ref 164, .int p0, .int p1, .int p2, .int p3] [] s1 _
    refine z_iconst (v := (1 : Int32)) dX8_grownTo_20 (by decide) rfl ?_
    refine z_bipush (v := (99 : Int32)) dX8_grownTo_21 (by decide) rfl ?_
    refine z_aload_n (i := 0) dX8_grownTo_23 rfl rfl rfl ?_
    refine z_bipush (v := (12 : Int32)) dX8_grownTo_24 (by decide) rfl ?_
    refine z_callV k_X8_worked m_X8_424 (zRec_of i_164) rfl h rfl (Nat.le_of_ble_eq_true rfl) dX8_grownTo_26 zy200 rfl ?_
    rintro v s2 ⟨r3, rfl, hRs2, h⟩
    show zt l g (d + 1) M_X8_grownTo 29 [.ref 164, .int p0, .int p1, .int p2, .int p3] [.int r3, .int (99 : Int32), .int (1 : Int32)] s2 _
    refine z_mmin m_X8_165 dX8_grownTo_29 (Nat.le_of_ble_eq_true rfl) rfl ?_
    refine z_mmax m_X8_171 dX8_grownTo_32 (Nat.le_of_ble_eq_true rfl) rfl ?_
    exact z_ret (some (.int (zmax (1 : Int32) (zmin (99 : Int32) r3)))) (Or.inr (Or.inl ⟨_, _, rfl, rfl, rfl, dX8_grownTo_35⟩)) zN200 ⟨_, rfl, h⟩
  · have h := zit h c
    refine z_iload_n (i := 1) dX8_grownTo_9 rfl rfl rfl ?_
    exact z_ret (some (.int p0)) (Or.inr (Or.inl ⟨_, _, rfl, rfl, rfl, dX8_grownTo_10⟩)) zN200 ⟨_, rfl, h⟩
theorem dX8_grown_0 : decode cX8_grown 0 = .ok (.iload_n 1, 1) := by decide +kernel
theorem dX8_grown_1 : decode cX8_grown 1 = .ok (.i2l, 1) := by decide +kernel
theorem dX8_grown_2 : decode cX8_grown 2 = .ok (.lconst 1, 1) := by decide +kernel
theorem dX8_grown_3 : decode cX8_grown 3 = .ok (.ldc2_w 192, 3) := by decide +kernel
theorem dX8_grown_6 : decode cX8_grown 6 = .ok (.invokestatic 147, 3) := by decide +kernel
theorem dX8_grown_9 : decode cX8_grown 9 = .ok (.ifCond .eq 34, 3) := by decide +kernel
theorem dX8_grown_12 : decode cX8_grown 12 = .ok (.iload_n 2, 1) := by decide +kernel
theorem dX8_grown_13 : decode cX8_grown 13 = .ok (.i2l, 1) := by decide +kernel
theorem dX8_grown_14 : decode cX8_grown 14 = .ok (.lconst 0, 1) := by decide +kernel
theorem dX8_grown_15 : decode cX8_grown 15 = .ok (.lconst 1, 1) := by decide +kernel
theorem dX8_grown_16 : decode cX8_grown 16 = .ok (.invokestatic 147, 3) := by decide +kernel
theorem dX8_grown_19 : decode cX8_grown 19 = .ok (.ifCond .eq 24, 3) := by decide +kernel
theorem dX8_grown_22 : decode cX8_grown 22 = .ok (.iload_n 3, 1) := by decide +kernel
theorem dX8_grown_23 : decode cX8_grown 23 = .ok (.iload 4, 2) := by decide +kernel
theorem dX8_grown_25 : decode cX8_grown 25 = .ok (.invokestatic 417, 3) := by decide +kernel
theorem dX8_grown_28 : decode cX8_grown 28 = .ok (.ifCond .eq 15, 3) := by decide +kernel
theorem dX8_grown_31 : decode cX8_grown 31 = .ok (.aload_n 0, 1) := by decide +kernel
theorem dX8_grown_32 : decode cX8_grown 32 = .ok (.iload_n 1, 1) := by decide +kernel
theorem dX8_grown_33 : decode cX8_grown 33 = .ok (.iload_n 2, 1) := by decide +kernel
theorem dX8_grown_34 : decode cX8_grown 34 = .ok (.iload_n 3, 1) := by decide +kernel
theorem dX8_grown_35 : decode cX8_grown 35 = .ok (.iload 4, 2) := by decide +kernel
theorem dX8_grown_37 : decode cX8_grown 37 = .ok (.invokevirtual 427, 3) := by decide +kernel
theorem dX8_grown_40 : decode cX8_grown 40 = .ok (.goto 4, 3) := by decide +kernel
theorem dX8_grown_43 : decode cX8_grown 43 = .ok (.iconst (-1), 1) := by decide +kernel
theorem dX8_grown_44 : decode cX8_grown 44 = .ok (.ireturn, 1) := by decide +kernel
set_option maxHeartbeats 4000000 in
set_option maxRecDepth 100000 in
theorem t_X8_grown {l : Launch} {g : zG} {d : Nat} {s : zS} (hR : zRok s) {p0 : Int32} {p1 : Int32} {p2 : Int32} {p3 : Int32} {K : Int32 → zS → Prop} (h : (if (zinr p0.toInt64 (1 : Int64) (9 : Int64)) = true then (if (zinr p1.toInt64 (0 : Int64) (1 : Int64)) = true then (zc l g d M_X8_areLater [.int p2, .int p3] s (zKz (fun b2 s1 => s1.2.2.1 = s.2.2.1 ∧ (if b2 = true then (zc l g d M_X8_grownTo [.ref 164, .int p0, .int p1, .int p2, .int p3] s1 (zKi (fun r4 s3 => s3.2.2.1 = s1.2.2.1 ∧ K r4 s3))) else K (-1 : Int32) s1)))) else K (-1 : Int32) s) else K (-1 : Int32) s)) : zc l g (d + 1) M_X8_grown [.ref 164, .int p0, .int p1, .int p2, .int p3] s (zKi K) := by
  refine zCall_of k_X8_grown (Nat.le_of_ble_eq_true rfl) (Nat.le_refl _) (fun _ => ?_)
  show zt l g (d + 1) M_X8_grown 0 [.ref 164, .int p0, .int p1, .int p2, .int p3] [] s (zKi K)
  refine z_iload_n (i := 1) dX8_grown_0 rfl rfl rfl ?_
  refine z_i2l dX8_grown_1 rfl ?_
  refine z_lconst (v := (1 : Int64)) dX8_grown_2 (by decide) rfl ?_
  refine z_ldc2 (v := (9 : Int64)) q_X8_192 dX8_grown_3 rfl ?_
  refine z_in m_X8_147 dX8_grown_6 (Nat.le_of_ble_eq_true rfl) rfl ?_
  refine z_ifb_eq (pt := 43) dX8_grown_9 (by decide) rfl (fun c => ?_) (fun c => ?_)
  · have h := zif h (by rw [c]; exact Bool.false_ne_true)
    refine z_iconst (v := (-1 : Int32)) dX8_grown_43 (by decide) rfl ?_
    exact z_ret (some (.int (-1 : Int32))) (Or.inr (Or.inl ⟨_, _, rfl, rfl, rfl, dX8_grown_44⟩)) zN200 ⟨_, rfl, h⟩
  · have h := zit h c
    refine z_iload_n (i := 2) dX8_grown_12 rfl rfl rfl ?_
    refine z_i2l dX8_grown_13 rfl ?_
    refine z_lconst (v := (0 : Int64)) dX8_grown_14 (by decide) rfl ?_
    refine z_lconst (v := (1 : Int64)) dX8_grown_15 (by decide) rfl ?_
    refine z_in m_X8_147 dX8_grown_16 (Nat.le_of_ble_eq_true rfl) rfl ?_
    refine z_ifb_eq (pt := 43) dX8_grown_19 (by decide) rfl (fun c => ?_) (fun c => ?_)
    · have h := zif h (by rw [c]; exact Bool.false_ne_true)
      refine z_iconst (v := (-1 : Int32)) dX8_grown_43 (by decide) rfl ?_
      exact z_ret (some (.int (-1 : Int32))) (Or.inr (Or.inl ⟨_, _, rfl, rfl, rfl, dX8_grown_44⟩)) zN200 ⟨_, rfl, h⟩
    · have h := zit h c
      refine z_iload_n (i := 3) dX8_grown_22 rfl rfl rfl ?_
      refine z_iload dX8_grown_23 rfl rfl ?_
      refine z_callS (as := [.int p2, .int p3]) k_X8_areLater m_X8_417 rfl h rfl (Nat.le_of_ble_eq_true rfl) dX8_grown_25 zy200 rfl ?_
      rintro v s1 ⟨b2, rfl, hRs1, h⟩
      show zt l g (d + 1) M_X8_grown 28 [.ref 164, .int p0, .int p1, .int p2, .int p3] [.int (zb b2)] s1 _
      refine z_ifb_eq (pt := 43) dX8_grown_28 (by decide) rfl (fun c => ?_) (fun c => ?_)
      · have h := zif h (by rw [c]; exact Bool.false_ne_true)
        refine z_iconst (v := (-1 : Int32)) dX8_grown_43 (by decide) rfl ?_
        exact z_ret (some (.int (-1 : Int32))) (Or.inr (Or.inl ⟨_, _, rfl, rfl, rfl, dX8_grown_44⟩)) zN200 ⟨_, rfl, h⟩
      · have h := zit h c
        refine z_aload_n (i := 0) dX8_grown_31 rfl rfl rfl ?_
        refine z_iload_n (i := 1) dX8_grown_32 rfl rfl rfl ?_
        refine z_iload_n (i := 2) dX8_grown_33 rfl rfl rfl ?_
        refine z_iload_n (i := 3) dX8_grown_34 rfl rfl rfl ?_
        refine z_iload dX8_grown_35 rfl rfl ?_
        refine z_callV k_X8_grownTo m_X8_427 (zRec_of i_164) rfl h rfl (Nat.le_of_ble_eq_true rfl) dX8_grown_37 zy200 rfl ?_
        rintro v s3 ⟨r4, rfl, hRs3, h⟩
        show zt l g (d + 1) M_X8_grown 40 [.ref 164, .int p0, .int p1, .int p2, .int p3] [.int r4] s3 _
        refine z_goto (pn := 44) dX8_grown_40 (by decide) ?_
        exact z_ret (some (.int r4)) (Or.inr (Or.inl ⟨_, _, rfl, rfl, rfl, dX8_grown_44⟩)) zN200 ⟨_, rfl, h⟩
theorem dX8_before_0 : decode cX8_before 0 = .ok (.iload_n 1, 1) := by decide +kernel
theorem dX8_before_1 : decode cX8_before 1 = .ok (.i2l, 1) := by decide +kernel
theorem dX8_before_2 : decode cX8_before 2 = .ok (.lconst 1, 1) := by decide +kernel
theorem dX8_before_3 : decode cX8_before 3 = .ok (.ldc2_w 415, 3) := by decide +kernel
theorem dX8_before_6 : decode cX8_before 6 = .ok (.invokestatic 147, 3) := by decide +kernel
theorem dX8_before_9 : decode cX8_before 9 = .ok (.ifCond .eq 22, 3) := by decide +kernel
theorem dX8_before_12 : decode cX8_before 12 = .ok (.iload_n 2, 1) := by decide +kernel
theorem dX8_before_13 : decode cX8_before 13 = .ok (.i2l, 1) := by decide +kernel
theorem dX8_before_14 : decode cX8_before 14 = .ok (.lconst 0, 1) := by decide +kernel
theorem dX8_before_15 : decode cX8_before 15 = .ok (.lconst 1, 1) := by decide +kernel
theorem dX8_before_16 : decode cX8_before 16 = .ok (.invokestatic 147, 3) := by decide +kernel
theorem dX8_before_19 : decode cX8_before 19 = .ok (.ifCond .eq 12, 3) := by decide +kernel
theorem dX8_before_22 : decode cX8_before 22 = .ok (.iload_n 3, 1) := by decide +kernel
theorem dX8_before_23 : decode cX8_before 23 = .ok (.iload 4, 2) := by decide +kernel
theorem dX8_before_25 : decode cX8_before 25 = .ok (.invokestatic 417, 3) := by decide +kernel
theorem dX8_before_28 : decode cX8_before 28 = .ok (.ifCond .ne 5, 3) := by decide +kernel
theorem dX8_before_31 : decode cX8_before 31 = .ok (.iconst (-1), 1) := by decide +kernel
theorem dX8_before_32 : decode cX8_before 32 = .ok (.ireturn, 1) := by decide +kernel
theorem dX8_before_33 : decode cX8_before 33 = .ok (.iconst 0, 1) := by decide +kernel
theorem dX8_before_34 : decode cX8_before 34 = .ok (.istore 5, 2) := by decide +kernel
theorem dX8_before_36 : decode cX8_before 36 = .ok (.iconst 1, 1) := by decide +kernel
theorem dX8_before_37 : decode cX8_before 37 = .ok (.istore 6, 2) := by decide +kernel
theorem dX8_before_39 : decode cX8_before 39 = .ok (.iload 6, 2) := by decide +kernel
theorem dX8_before_41 : decode cX8_before 41 = .ok (.bipush 10, 2) := by decide +kernel
theorem dX8_before_43 : decode cX8_before 43 = .ok (.if_icmp .ge 38, 3) := by decide +kernel
theorem dX8_before_46 : decode cX8_before 46 = .ok (.iload 5, 2) := by decide +kernel
theorem dX8_before_48 : decode cX8_before 48 = .ok (.aload_n 0, 1) := by decide +kernel
theorem dX8_before_49 : decode cX8_before 49 = .ok (.iload 6, 2) := by decide +kernel
theorem dX8_before_51 : decode cX8_before 51 = .ok (.iload_n 2, 1) := by decide +kernel
theorem dX8_before_52 : decode cX8_before 52 = .ok (.iload_n 3, 1) := by decide +kernel
theorem dX8_before_53 : decode cX8_before 53 = .ok (.iload 4, 2) := by decide +kernel
theorem dX8_before_55 : decode cX8_before 55 = .ok (.invokevirtual 427, 3) := by decide +kernel
theorem dX8_before_58 : decode cX8_before 58 = .ok (.iload_n 1, 1) := by decide +kernel
theorem dX8_before_59 : decode cX8_before 59 = .ok (.if_icmp .ne 12, 3) := by decide +kernel
theorem dX8_before_62 : decode cX8_before 62 = .ok (.iconst 1, 1) := by decide +kernel
theorem dX8_before_63 : decode cX8_before 63 = .ok (.iload 6, 2) := by decide +kernel
theorem dX8_before_65 : decode cX8_before 65 = .ok (.iconst 1, 1) := by decide +kernel
theorem dX8_before_66 : decode cX8_before 66 = .ok (.isub, 1) := by decide +kernel
theorem dX8_before_67 : decode cX8_before 67 = .ok (.ishl, 1) := by decide +kernel
theorem dX8_before_68 : decode cX8_before 68 = .ok (.goto 4, 3) := by decide +kernel
theorem dX8_before_71 : decode cX8_before 71 = .ok (.iconst 0, 1) := by decide +kernel
theorem dX8_before_72 : decode cX8_before 72 = .ok (.ior, 1) := by decide +kernel
theorem dX8_before_73 : decode cX8_before 73 = .ok (.istore 5, 2) := by decide +kernel
theorem dX8_before_75 : decode cX8_before 75 = .ok (.iinc 6 1, 3) := by decide +kernel
theorem dX8_before_78 : decode cX8_before 78 = .ok (.goto (-39), 3) := by decide +kernel
theorem dX8_before_81 : decode cX8_before 81 = .ok (.iload 5, 2) := by decide +kernel
theorem dX8_before_83 : decode cX8_before 83 = .ok (.ireturn, 1) := by decide +kernel
set_option maxHeartbeats 4000000 in
set_option maxRecDepth 100000 in
theorem t_X8_before {l : Launch} {g : zG} {d : Nat} {s : zS} (hR : zRok s) {p0 : Int32} {p1 : Int32} {p2 : Int32} {p3 : Int32} {K : Int32 → zS → Prop} (h : (if (zinr p0.toInt64 (1 : Int64) (99 : Int64)) = true then (if (zinr p1.toInt64 (0 : Int64) (1 : Int64)) = true then (zc l g d M_X8_areLater [.int p2, .int p3] s (zKz (fun b2 s1 => s1.2.2.1 = s.2.2.1 ∧ (if b2 = true then zt l g (d + 1) M_X8_before 39 [.ref 164, .int p0, .int p1, .int p2, .int p3, .int (0 : Int32), .int (1 : Int32)] [] s1 (zKi K) else K (-1 : Int32) s1)))) else K (-1 : Int32) s) else K (-1 : Int32) s)) : zc l g (d + 1) M_X8_before [.ref 164, .int p0, .int p1, .int p2, .int p3] s (zKi K) := by
  refine zCall_of k_X8_before (Nat.le_of_ble_eq_true rfl) (Nat.le_refl _) (fun _ => ?_)
  show zt l g (d + 1) M_X8_before 0 [.ref 164, .int p0, .int p1, .int p2, .int p3, zJ, zJ] [] s (zKi K)
  refine z_iload_n (i := 1) dX8_before_0 rfl rfl rfl ?_
  refine z_i2l dX8_before_1 rfl ?_
  refine z_lconst (v := (1 : Int64)) dX8_before_2 (by decide) rfl ?_
  refine z_ldc2 (v := (99 : Int64)) q_X8_415 dX8_before_3 rfl ?_
  refine z_in m_X8_147 dX8_before_6 (Nat.le_of_ble_eq_true rfl) rfl ?_
  refine z_ifb_eq (pt := 31) dX8_before_9 (by decide) rfl (fun c => ?_) (fun c => ?_)
  · have h := zif h (by rw [c]; exact Bool.false_ne_true)
    refine z_iconst (v := (-1 : Int32)) dX8_before_31 (by decide) rfl ?_
    exact z_ret (some (.int (-1 : Int32))) (Or.inr (Or.inl ⟨_, _, rfl, rfl, rfl, dX8_before_32⟩)) zN200 ⟨_, rfl, h⟩
  · have h := zit h c
    refine z_iload_n (i := 2) dX8_before_12 rfl rfl rfl ?_
    refine z_i2l dX8_before_13 rfl ?_
    refine z_lconst (v := (0 : Int64)) dX8_before_14 (by decide) rfl ?_
    refine z_lconst (v := (1 : Int64)) dX8_before_15 (by decide) rfl ?_
    refine z_in m_X8_147 dX8_before_16 (Nat.le_of_ble_eq_true rfl) rfl ?_
    refine z_ifb_eq (pt := 31) dX8_before_19 (by decide) rfl (fun c => ?_) (fun c => ?_)
    · have h := zif h (by rw [c]; exact Bool.false_ne_true)
      refine z_iconst (v := (-1 : Int32)) dX8_before_31 (by decide) rfl ?_
      exact z_ret (some (.int (-1 : Int32))) (Or.inr (Or.inl ⟨_, _, rfl, rfl, rfl, dX8_before_32⟩)) zN200 ⟨_, rfl, h⟩
    · have h := zit h c
      refine z_iload_n (i := 3) dX8_before_22 rfl rfl rfl ?_
      refine z_iload dX8_before_23 rfl rfl ?_
      refine z_callS (as := [.int p2, .int p3]) k_X8_areLater m_X8_417 rfl h rfl (Nat.le_of_ble_eq_true rfl) dX8_before_25 zy200 rfl ?_
      rintro v s1 ⟨b2, rfl, hRs1, h⟩
      show zt l g (d + 1) M_X8_before 28 [.ref 164, .int p0, .int p1, .int p2, .int p3, zJ, zJ] [.int (zb b2)] s1 _
      refine z_ifb_ne (pt := 33) dX8_before_28 (by decide) rfl (fun c => ?_) (fun c => ?_)
      · have h := zit h c
        refine z_iconst (v := (0 : Int32)) dX8_before_33 (by decide) rfl ?_
        refine z_istore dX8_before_34 (by decide) (zokd rfl) rfl ?_
        show zt l g (d + 1) M_X8_before 36 [.ref 164, .int p0, .int p1, .int p2, .int p3, .int (0 : Int32), zJ] [] s1 _
        refine z_iconst (v := (1 : Int32)) dX8_before_36 (by decide) rfl ?_
        refine z_istore dX8_before_37 (by decide) (zokd rfl) rfl ?_
        show zt l g (d + 1) M_X8_before 39 [.ref 164, .int p0, .int p1, .int p2, .int p3, .int (0 : Int32), .int (1 : Int32)] [] s1 _
        exact h
      · have h := zif h (by rw [c]; exact Bool.false_ne_true)
        refine z_iconst (v := (-1 : Int32)) dX8_before_31 (by decide) rfl ?_
        exact z_ret (some (.int (-1 : Int32))) (Or.inr (Or.inl ⟨_, _, rfl, rfl, rfl, dX8_before_32⟩)) zN200 ⟨_, rfl, h⟩
set_option maxHeartbeats 4000000 in
set_option maxRecDepth 100000 in
theorem t_X8_before_39 {l : Launch} {g : zG} {d : Nat} {s : zS} (hR : zRok s) {x1 : Int32} {x2 : Int32} {x3 : Int32} {x4 : Int32} {x5 : Int32} {x6 : Int32} {K : Int32 → zS → Prop} (h : (if (10 : Int32) ≤ x6 then K x5 s else (zc l g d M_X8_grownTo [.ref 164, .int x6, .int x2, .int x3, .int x4] s (zKi (fun r2 s1 => s1.2.2.1 = s.2.2.1 ∧ (if r2 = x1 then (∀ v3 : Int32, v3 = x5 ||| ((1 : Int32) <<< ((x6 - (1 : Int32)) &&& 31)) → zt l g (d + 1) M_X8_before 39 [.ref 164, .int x1, .int x2, .int x3, .int x4, .int v3, .int (x6 + (1 : Int32))] [] s1 (zKi K)) else zt l g (d + 1) M_X8_before 39 [.ref 164, .int x1, .int x2, .int x3, .int x4, .int (x5 ||| (0 : Int32)), .int (x6 + (1 : Int32))] [] s1 (zKi K))))))) : zt l g (d + 1) M_X8_before 39 [.ref 164, .int x1, .int x2, .int x3, .int x4, .int x5, .int x6] [] s (zKi K) := by
  refine z_iload dX8_before_39 rfl rfl ?_
  refine z_bipush (v := (10 : Int32)) dX8_before_41 (by decide) rfl ?_
  refine z_icmp_ge (pt := 81) dX8_before_43 (by decide) rfl (fun c => ?_) (fun c => ?_)
  · have h := zit h c
    refine z_iload dX8_before_81 rfl rfl ?_
    exact z_ret (some (.int x5)) (Or.inr (Or.inl ⟨_, _, rfl, rfl, rfl, dX8_before_83⟩)) zN200 ⟨_, rfl, h⟩
  · have h := zif h c
    refine z_iload dX8_before_46 rfl rfl ?_
    refine z_aload_n (i := 0) dX8_before_48 rfl rfl rfl ?_
    refine z_iload dX8_before_49 rfl rfl ?_
    refine z_iload_n (i := 2) dX8_before_51 rfl rfl rfl ?_
    refine z_iload_n (i := 3) dX8_before_52 rfl rfl rfl ?_
    refine z_iload dX8_before_53 rfl rfl ?_
    refine z_callV k_X8_grownTo m_X8_427 (zRec_of i_164) rfl h rfl (Nat.le_of_ble_eq_true rfl) dX8_before_55 zy200 rfl ?_
    rintro v s1 ⟨r2, rfl, hRs1, h⟩
    show zt l g (d + 1) M_X8_before 58 [.ref 164, .int x1, .int x2, .int x3, .int x4, .int x5, .int x6] [.int r2, .int x5] s1 _
    refine z_iload_n (i := 1) dX8_before_58 rfl rfl rfl ?_
    refine z_icmp_ne (pt := 71) dX8_before_59 (by decide) rfl (fun c => ?_) (fun c => ?_)
    · have h := zif h c
      refine z_iconst (v := (0 : Int32)) dX8_before_71 (by decide) rfl ?_
      refine z_ior dX8_before_72 rfl ?_
      refine z_istore dX8_before_73 (by decide) (zokd rfl) rfl ?_
      show zt l g (d + 1) M_X8_before 75 [.ref 164, .int x1, .int x2, .int x3, .int x4, .int (x5 ||| (0 : Int32)), .int x6] [] s1 _
      refine z_iinc (v := x6 + (1 : Int32)) dX8_before_75 rfl rfl (by decide) (zokd rfl) rfl ?_
      show zt l g (d + 1) M_X8_before 78 [.ref 164, .int x1, .int x2, .int x3, .int x4, .int (x5 ||| (0 : Int32)), .int (x6 + (1 : Int32))] [] s1 _
      refine z_goto (pn := 39) dX8_before_78 (by decide) ?_
      exact h
    · have h := zit h c
      refine z_iconst (v := (1 : Int32)) dX8_before_62 (by decide) rfl ?_
      refine z_iload dX8_before_63 rfl rfl ?_
      refine z_iconst (v := (1 : Int32)) dX8_before_65 (by decide) rfl ?_
      refine z_isub dX8_before_66 rfl ?_
      refine z_ishl dX8_before_67 rfl ?_
      refine z_goto (pn := 72) dX8_before_68 (by decide) ?_
      refine z_ior dX8_before_72 rfl ?_
      refine z_istore dX8_before_73 (by decide) (zokd rfl) rfl ?_
      obtain ⟨v3, ev3⟩ : ∃ x : Int32, x = x5 ||| ((1 : Int32) <<< ((x6 - (1 : Int32)) &&& 31)) := ⟨_, rfl⟩
      rw [← ev3]
      have h := h v3 ev3
      show zt l g (d + 1) M_X8_before 75 [.ref 164, .int x1, .int x2, .int x3, .int x4, .int v3, .int x6] [] s1 _
      refine z_iinc (v := x6 + (1 : Int32)) dX8_before_75 rfl rfl (by decide) (zokd rfl) rfl ?_
      show zt l g (d + 1) M_X8_before 78 [.ref 164, .int x1, .int x2, .int x3, .int x4, .int v3, .int (x6 + (1 : Int32))] [] s1 _
      refine z_goto (pn := 39) dX8_before_78 (by decide) ?_
      exact h
theorem dX8_lot_0 : decode cX8_lot 0 = .ok (.aload_n 0, 1) := by decide +kernel
theorem dX8_lot_1 : decode cX8_lot 1 = .ok (.aload_n 0, 1) := by decide +kernel
theorem dX8_lot_2 : decode cX8_lot 2 = .ok (.getfield 430, 3) := by decide +kernel
theorem dX8_lot_5 : decode cX8_lot 5 = .ok (.ldc2_w 434, 3) := by decide +kernel
theorem dX8_lot_8 : decode cX8_lot 8 = .ok (.lmul, 1) := by decide +kernel
theorem dX8_lot_9 : decode cX8_lot 9 = .ok (.ldc2_w 436, 3) := by decide +kernel
theorem dX8_lot_12 : decode cX8_lot 12 = .ok (.ladd, 1) := by decide +kernel
theorem dX8_lot_13 : decode cX8_lot 13 = .ok (.ldc2_w 438, 3) := by decide +kernel
theorem dX8_lot_16 : decode cX8_lot 16 = .ok (.land, 1) := by decide +kernel
theorem dX8_lot_17 : decode cX8_lot 17 = .ok (.putfield 430, 3) := by decide +kernel
theorem dX8_lot_20 : decode cX8_lot 20 = .ok (.aload_n 0, 1) := by decide +kernel
theorem dX8_lot_21 : decode cX8_lot 21 = .ok (.getfield 430, 3) := by decide +kernel
theorem dX8_lot_24 : decode cX8_lot 24 = .ok (.ldc2_w 440, 3) := by decide +kernel
theorem dX8_lot_27 : decode cX8_lot 27 = .ok (.ldiv, 1) := by decide +kernel
theorem dX8_lot_28 : decode cX8_lot 28 = .ok (.iload_n 1, 1) := by decide +kernel
theorem dX8_lot_29 : decode cX8_lot 29 = .ok (.i2l, 1) := by decide +kernel
theorem dX8_lot_30 : decode cX8_lot 30 = .ok (.lrem, 1) := by decide +kernel
theorem dX8_lot_31 : decode cX8_lot 31 = .ok (.l2i, 1) := by decide +kernel
theorem dX8_lot_32 : decode cX8_lot 32 = .ok (.ireturn, 1) := by decide +kernel
set_option maxHeartbeats 4000000 in
set_option maxRecDepth 100000 in
theorem t_X8_lot {l : Launch} {g : zG} {d : Nat} {s : zS} (hR : zRok s) {p0 : Int32} {K : Int32 → zS → Prop} (h : (¬ p0.toInt64 = 0 ∧ K (((((((s.2.1 164 44) * (1103515245 : Int64)) + (12345 : Int64)) &&& (2147483647 : Int64)) / (256 : Int64)) % p0.toInt64).toInt32) (zLg s 164 44 ((((s.2.1 164 44) * (1103515245 : Int64)) + (12345 : Int64)) &&& (2147483647 : Int64))))) : zc l g d M_X8_lot [.ref 164, .int p0] s (zKi K) := by
  refine zCall_of k_X8_lot (Nat.le_of_ble_eq_true rfl) (Nat.le_refl _) (fun _ => ?_)
  show zt l g d M_X8_lot 0 [.ref 164, .int p0] [] s (zKi K)
  refine z_aload_n (i := 0) dX8_lot_0 rfl rfl rfl ?_
  refine z_aload_n (i := 0) dX8_lot_1 rfl rfl rfl ?_
  refine z_getL (x := s.2.1 164 44) rfl f_X8_430 i_164 rfl dX8_lot_2 rfl ?_
  refine z_ldc2 (v := (1103515245 : Int64)) q_X8_434 dX8_lot_5 rfl ?_
  refine z_lmul dX8_lot_8 rfl ?_
  refine z_ldc2 (v := (12345 : Int64)) q_X8_436 dX8_lot_9 rfl ?_
  refine z_ladd dX8_lot_12 rfl ?_
  refine z_ldc2 (v := (2147483647 : Int64)) q_X8_438 dX8_lot_13 rfl ?_
  refine z_land dX8_lot_16 rfl ?_
  refine z_putL f_X8_430 i_164 rfl (Or.inl rfl) rfl rfl dX8_lot_17 rfl ?_
  refine z_aload_n (i := 0) dX8_lot_20 rfl rfl rfl ?_
  refine z_getL (x := (((s.2.1 164 44) * (1103515245 : Int64)) + (12345 : Int64)) &&& (2147483647 : Int64)) zLg_eq f_X8_430 i_164 rfl dX8_lot_21 rfl ?_
  refine z_ldc2 (v := (256 : Int64)) q_X8_440 dX8_lot_24 rfl ?_
  refine z_ldiv dX8_lot_27 (by decide) rfl ?_
  refine z_iload_n (i := 1) dX8_lot_28 rfl rfl rfl ?_
  refine z_i2l dX8_lot_29 rfl ?_
  obtain ⟨a1, h⟩ := h
  refine z_lrem dX8_lot_30 a1 rfl ?_
  refine z_l2i dX8_lot_31 rfl ?_
  exact z_ret (some (.int (((((((s.2.1 164 44) * (1103515245 : Int64)) + (12345 : Int64)) &&& (2147483647 : Int64)) / (256 : Int64)) % p0.toInt64).toInt32))) (Or.inr (Or.inl ⟨_, _, rfl, rfl, rfl, dX8_lot_32⟩)) zN200 ⟨_, rfl, h⟩
theorem dX8_draw_0 : decode cX8_draw 0 = .ok (.iload_n 1, 1) := by decide +kernel
theorem dX8_draw_1 : decode cX8_draw 1 = .ok (.i2l, 1) := by decide +kernel
theorem dX8_draw_2 : decode cX8_draw 2 = .ok (.lconst 0, 1) := by decide +kernel
theorem dX8_draw_3 : decode cX8_draw 3 = .ok (.ldc2_w 404, 3) := by decide +kernel
theorem dX8_draw_6 : decode cX8_draw 6 = .ok (.invokestatic 147, 3) := by decide +kernel
theorem dX8_draw_9 : decode cX8_draw 9 = .ok (.ifCond .eq 29, 3) := by decide +kernel
theorem dX8_draw_12 : decode cX8_draw 12 = .ok (.iload_n 2, 1) := by decide +kernel
theorem dX8_draw_13 : decode cX8_draw 13 = .ok (.i2l, 1) := by decide +kernel
theorem dX8_draw_14 : decode cX8_draw 14 = .ok (.lconst 1, 1) := by decide +kernel
theorem dX8_draw_15 : decode cX8_draw 15 = .ok (.ldc2_w 203, 3) := by decide +kernel
theorem dX8_draw_18 : decode cX8_draw 18 = .ok (.invokestatic 147, 3) := by decide +kernel
theorem dX8_draw_21 : decode cX8_draw 21 = .ok (.ifCond .eq 17, 3) := by decide +kernel
theorem dX8_draw_24 : decode cX8_draw 24 = .ok (.aload_n 0, 1) := by decide +kernel
theorem dX8_draw_25 : decode cX8_draw 25 = .ok (.getfield 183, 3) := by decide +kernel
theorem dX8_draw_28 : decode cX8_draw 28 = .ok (.ifCond .eq 10, 3) := by decide +kernel
theorem dX8_draw_31 : decode cX8_draw 31 = .ok (.aload_n 0, 1) := by decide +kernel
theorem dX8_draw_32 : decode cX8_draw 32 = .ok (.getfield 180, 3) := by decide +kernel
theorem dX8_draw_35 : decode cX8_draw 35 = .ok (.ifCond .ne 5, 3) := by decide +kernel
theorem dX8_draw_38 : decode cX8_draw 38 = .ok (.iconst (-1), 1) := by decide +kernel
theorem dX8_draw_39 : decode cX8_draw 39 = .ok (.ireturn, 1) := by decide +kernel
theorem dX8_draw_40 : decode cX8_draw 40 = .ok (.aload_n 0, 1) := by decide +kernel
theorem dX8_draw_41 : decode cX8_draw 41 = .ok (.iload_n 1, 1) := by decide +kernel
theorem dX8_draw_42 : decode cX8_draw 42 = .ok (.i2l, 1) := by decide +kernel
theorem dX8_draw_43 : decode cX8_draw 43 = .ok (.putfield 430, 3) := by decide +kernel
theorem dX8_draw_46 : decode cX8_draw 46 = .ok (.iconst 0, 1) := by decide +kernel
theorem dX8_draw_47 : decode cX8_draw 47 = .ok (.istore_n 3, 1) := by decide +kernel
theorem dX8_draw_48 : decode cX8_draw 48 = .ok (.iconst 0, 1) := by decide +kernel
theorem dX8_draw_49 : decode cX8_draw 49 = .ok (.istore 4, 2) := by decide +kernel
theorem dX8_draw_51 : decode cX8_draw 51 = .ok (.iload 4, 2) := by decide +kernel
theorem dX8_draw_53 : decode cX8_draw 53 = .ok (.iload_n 2, 1) := by decide +kernel
theorem dX8_draw_54 : decode cX8_draw 54 = .ok (.if_icmp .ge 278, 3) := by decide +kernel
theorem dX8_draw_57 : decode cX8_draw 57 = .ok (.aload_n 0, 1) := by decide +kernel
theorem dX8_draw_58 : decode cX8_draw 58 = .ok (.aload_n 0, 1) := by decide +kernel
theorem dX8_draw_59 : decode cX8_draw 59 = .ok (.getfield 183, 3) := by decide +kernel
theorem dX8_draw_62 : decode cX8_draw 62 = .ok (.invokevirtual 442, 3) := by decide +kernel
theorem dX8_draw_65 : decode cX8_draw 65 = .ok (.istore 5, 2) := by decide +kernel
theorem dX8_draw_67 : decode cX8_draw 67 = .ok (.aload_n 0, 1) := by decide +kernel
theorem dX8_draw_68 : decode cX8_draw 68 = .ok (.aload_n 0, 1) := by decide +kernel
theorem dX8_draw_69 : decode cX8_draw 69 = .ok (.getfield 180, 3) := by decide +kernel
theorem dX8_draw_72 : decode cX8_draw 72 = .ok (.invokevirtual 442, 3) := by decide +kernel
theorem dX8_draw_75 : decode cX8_draw 75 = .ok (.istore 6, 2) := by decide +kernel
theorem dX8_draw_77 : decode cX8_draw 77 = .ok (.aload_n 0, 1) := by decide +kernel
theorem dX8_draw_78 : decode cX8_draw 78 = .ok (.sipush 240, 3) := by decide +kernel
theorem dX8_draw_81 : decode cX8_draw 81 = .ok (.invokevirtual 442, 3) := by decide +kernel
theorem dX8_draw_84 : decode cX8_draw 84 = .ok (.istore 7, 2) := by decide +kernel
theorem dX8_draw_86 : decode cX8_draw 86 = .ok (.sipush 239, 3) := by decide +kernel
theorem dX8_draw_89 : decode cX8_draw 89 = .ok (.iload 7, 2) := by decide +kernel
theorem dX8_draw_91 : decode cX8_draw 91 = .ok (.aload_n 0, 1) := by decide +kernel
theorem dX8_draw_92 : decode cX8_draw 92 = .ok (.bipush 10, 2) := by decide +kernel
theorem dX8_draw_94 : decode cX8_draw 94 = .ok (.invokevirtual 442, 3) := by decide +kernel
theorem dX8_draw_97 : decode cX8_draw 97 = .ok (.iadd, 1) := by decide +kernel
theorem dX8_draw_98 : decode cX8_draw 98 = .ok (.invokestatic 165, 3) := by decide +kernel
theorem dX8_draw_101 : decode cX8_draw 101 = .ok (.istore 8, 2) := by decide +kernel
theorem dX8_draw_103 : decode cX8_draw 103 = .ok (.aload_n 0, 1) := by decide +kernel
theorem dX8_draw_104 : decode cX8_draw 104 = .ok (.iconst 2, 1) := by decide +kernel
theorem dX8_draw_105 : decode cX8_draw 105 = .ok (.aload_n 0, 1) := by decide +kernel
theorem dX8_draw_106 : decode cX8_draw 106 = .ok (.getfield 66, 3) := by decide +kernel
theorem dX8_draw_109 : decode cX8_draw 109 = .ok (.imul, 1) := by decide +kernel
theorem dX8_draw_110 : decode cX8_draw 110 = .ok (.iconst 1, 1) := by decide +kernel
theorem dX8_draw_111 : decode cX8_draw 111 = .ok (.iadd, 1) := by decide +kernel
theorem dX8_draw_112 : decode cX8_draw 112 = .ok (.invokevirtual 442, 3) := by decide +kernel
theorem dX8_draw_115 : decode cX8_draw 115 = .ok (.aload_n 0, 1) := by decide +kernel
theorem dX8_draw_116 : decode cX8_draw 116 = .ok (.getfield 66, 3) := by decide +kernel
theorem dX8_draw_119 : decode cX8_draw 119 = .ok (.isub, 1) := by decide +kernel
theorem dX8_draw_120 : decode cX8_draw 120 = .ok (.istore 9, 2) := by decide +kernel
theorem dX8_draw_122 : decode cX8_draw 122 = .ok (.aload_n 0, 1) := by decide +kernel
theorem dX8_draw_123 : decode cX8_draw 123 = .ok (.iconst 2, 1) := by decide +kernel
theorem dX8_draw_124 : decode cX8_draw 124 = .ok (.aload_n 0, 1) := by decide +kernel
theorem dX8_draw_125 : decode cX8_draw 125 = .ok (.getfield 70, 3) := by decide +kernel
theorem dX8_draw_128 : decode cX8_draw 128 = .ok (.imul, 1) := by decide +kernel
theorem dX8_draw_129 : decode cX8_draw 129 = .ok (.iconst 1, 1) := by decide +kernel
theorem dX8_draw_130 : decode cX8_draw 130 = .ok (.iadd, 1) := by decide +kernel
theorem dX8_draw_131 : decode cX8_draw 131 = .ok (.invokevirtual 442, 3) := by decide +kernel
theorem dX8_draw_134 : decode cX8_draw 134 = .ok (.aload_n 0, 1) := by decide +kernel
theorem dX8_draw_135 : decode cX8_draw 135 = .ok (.getfield 70, 3) := by decide +kernel
theorem dX8_draw_138 : decode cX8_draw 138 = .ok (.isub, 1) := by decide +kernel
theorem dX8_draw_139 : decode cX8_draw 139 = .ok (.istore 10, 2) := by decide +kernel
theorem dX8_draw_141 : decode cX8_draw 141 = .ok (.aload_n 0, 1) := by decide +kernel
theorem dX8_draw_142 : decode cX8_draw 142 = .ok (.bipush 9, 2) := by decide +kernel
theorem dX8_draw_144 : decode cX8_draw 144 = .ok (.invokevirtual 442, 3) := by decide +kernel
theorem dX8_draw_147 : decode cX8_draw 147 = .ok (.iconst 1, 1) := by decide +kernel
theorem dX8_draw_148 : decode cX8_draw 148 = .ok (.iadd, 1) := by decide +kernel
theorem dX8_draw_149 : decode cX8_draw 149 = .ok (.istore 11, 2) := by decide +kernel
theorem dX8_draw_151 : decode cX8_draw 151 = .ok (.aload_n 0, 1) := by decide +kernel
theorem dX8_draw_152 : decode cX8_draw 152 = .ok (.iconst 2, 1) := by decide +kernel
theorem dX8_draw_153 : decode cX8_draw 153 = .ok (.invokevirtual 442, 3) := by decide +kernel
theorem dX8_draw_156 : decode cX8_draw 156 = .ok (.istore 12, 2) := by decide +kernel
theorem dX8_draw_158 : decode cX8_draw 158 = .ok (.aload_n 0, 1) := by decide +kernel
theorem dX8_draw_159 : decode cX8_draw 159 = .ok (.getfield 270, 3) := by decide +kernel
theorem dX8_draw_162 : decode cX8_draw 162 = .ok (.bipush 60, 2) := by decide +kernel
theorem dX8_draw_164 : decode cX8_draw 164 = .ok (.if_icmp .eq 162, 3) := by decide +kernel
theorem dX8_draw_167 : decode cX8_draw 167 = .ok (.aload_n 0, 1) := by decide +kernel
theorem dX8_draw_168 : decode cX8_draw 168 = .ok (.iload 5, 2) := by decide +kernel
theorem dX8_draw_170 : decode cX8_draw 170 = .ok (.iload 6, 2) := by decide +kernel
theorem dX8_draw_172 : decode cX8_draw 172 = .ok (.iload 7, 2) := by decide +kernel
theorem dX8_draw_174 : decode cX8_draw 174 = .ok (.invokevirtual 255, 3) := by decide +kernel
theorem dX8_draw_177 : decode cX8_draw 177 = .ok (.ifCond .eq 149, 3) := by decide +kernel
theorem dX8_draw_180 : decode cX8_draw 180 = .ok (.aload_n 0, 1) := by decide +kernel
theorem dX8_draw_181 : decode cX8_draw 181 = .ok (.iload 5, 2) := by decide +kernel
theorem dX8_draw_183 : decode cX8_draw 183 = .ok (.iload 6, 2) := by decide +kernel
theorem dX8_draw_185 : decode cX8_draw 185 = .ok (.iload 8, 2) := by decide +kernel
theorem dX8_draw_187 : decode cX8_draw 187 = .ok (.invokevirtual 255, 3) := by decide +kernel
theorem dX8_draw_190 : decode cX8_draw 190 = .ok (.ifCond .ne 6, 3) := by decide +kernel
theorem dX8_draw_193 : decode cX8_draw 193 = .ok (.goto 133, 3) := by decide +kernel
theorem dX8_draw_196 : decode cX8_draw 196 = .ok (.sipush 1000, 3) := by decide +kernel
theorem dX8_draw_199 : decode cX8_draw 199 = .ok (.aload_n 0, 1) := by decide +kernel
theorem dX8_draw_200 : decode cX8_draw 200 = .ok (.iload 5, 2) := by decide +kernel
theorem dX8_draw_202 : decode cX8_draw 202 = .ok (.iload 6, 2) := by decide +kernel
theorem dX8_draw_204 : decode cX8_draw 204 = .ok (.iload 7, 2) := by decide +kernel
theorem dX8_draw_206 : decode cX8_draw 206 = .ok (.invokevirtual 259, 3) := by decide +kernel
theorem dX8_draw_209 : decode cX8_draw 209 = .ok (.iload 9, 2) := by decide +kernel
theorem dX8_draw_211 : decode cX8_draw 211 = .ok (.iadd, 1) := by decide +kernel
theorem dX8_draw_212 : decode cX8_draw 212 = .ok (.sipush 256, 3) := by decide +kernel
theorem dX8_draw_215 : decode cX8_draw 215 = .ok (.invokestatic 242, 3) := by decide +kernel
theorem dX8_draw_218 : decode cX8_draw 218 = .ok (.imul, 1) := by decide +kernel
theorem dX8_draw_219 : decode cX8_draw 219 = .ok (.iconst 0, 1) := by decide +kernel
theorem dX8_draw_220 : decode cX8_draw 220 = .ok (.sipush 999, 3) := by decide +kernel
theorem dX8_draw_223 : decode cX8_draw 223 = .ok (.aload_n 0, 1) := by decide +kernel
theorem dX8_draw_224 : decode cX8_draw 224 = .ok (.iload 5, 2) := by decide +kernel
theorem dX8_draw_226 : decode cX8_draw 226 = .ok (.iload 6, 2) := by decide +kernel
theorem dX8_draw_228 : decode cX8_draw 228 = .ok (.iload 7, 2) := by decide +kernel
theorem dX8_draw_230 : decode cX8_draw 230 = .ok (.invokevirtual 261, 3) := by decide +kernel
theorem dX8_draw_233 : decode cX8_draw 233 = .ok (.iload 10, 2) := by decide +kernel
theorem dX8_draw_235 : decode cX8_draw 235 = .ok (.iadd, 1) := by decide +kernel
theorem dX8_draw_236 : decode cX8_draw 236 = .ok (.invokestatic 165, 3) := by decide +kernel
theorem dX8_draw_239 : decode cX8_draw 239 = .ok (.invokestatic 171, 3) := by decide +kernel
theorem dX8_draw_242 : decode cX8_draw 242 = .ok (.iadd, 1) := by decide +kernel
theorem dX8_draw_243 : decode cX8_draw 243 = .ok (.istore 13, 2) := by decide +kernel
theorem dX8_draw_245 : decode cX8_draw 245 = .ok (.sipush 1000, 3) := by decide +kernel
theorem dX8_draw_248 : decode cX8_draw 248 = .ok (.aload_n 0, 1) := by decide +kernel
theorem dX8_draw_249 : decode cX8_draw 249 = .ok (.iload 5, 2) := by decide +kernel
theorem dX8_draw_251 : decode cX8_draw 251 = .ok (.iload 6, 2) := by decide +kernel
theorem dX8_draw_253 : decode cX8_draw 253 = .ok (.iload 8, 2) := by decide +kernel
theorem dX8_draw_255 : decode cX8_draw 255 = .ok (.invokevirtual 259, 3) := by decide +kernel
theorem dX8_draw_258 : decode cX8_draw 258 = .ok (.iload 9, 2) := by decide +kernel
theorem dX8_draw_260 : decode cX8_draw 260 = .ok (.iadd, 1) := by decide +kernel
theorem dX8_draw_261 : decode cX8_draw 261 = .ok (.sipush 256, 3) := by decide +kernel
theorem dX8_draw_264 : decode cX8_draw 264 = .ok (.invokestatic 242, 3) := by decide +kernel
theorem dX8_draw_267 : decode cX8_draw 267 = .ok (.imul, 1) := by decide +kernel
theorem dX8_draw_268 : decode cX8_draw 268 = .ok (.iconst 0, 1) := by decide +kernel
theorem dX8_draw_269 : decode cX8_draw 269 = .ok (.sipush 999, 3) := by decide +kernel
theorem dX8_draw_272 : decode cX8_draw 272 = .ok (.aload_n 0, 1) := by decide +kernel
theorem dX8_draw_273 : decode cX8_draw 273 = .ok (.iload 5, 2) := by decide +kernel
theorem dX8_draw_275 : decode cX8_draw 275 = .ok (.iload 6, 2) := by decide +kernel
theorem dX8_draw_277 : decode cX8_draw 277 = .ok (.iload 8, 2) := by decide +kernel
theorem dX8_draw_279 : decode cX8_draw 279 = .ok (.invokevirtual 261, 3) := by decide +kernel
theorem dX8_draw_282 : decode cX8_draw 282 = .ok (.iload 10, 2) := by decide +kernel
theorem dX8_draw_284 : decode cX8_draw 284 = .ok (.iadd, 1) := by decide +kernel
theorem dX8_draw_285 : decode cX8_draw 285 = .ok (.invokestatic 165, 3) := by decide +kernel
theorem dX8_draw_288 : decode cX8_draw 288 = .ok (.invokestatic 171, 3) := by decide +kernel
theorem dX8_draw_291 : decode cX8_draw 291 = .ok (.iadd, 1) := by decide +kernel
theorem dX8_draw_292 : decode cX8_draw 292 = .ok (.istore 14, 2) := by decide +kernel
theorem dX8_draw_294 : decode cX8_draw 294 = .ok (.aload_n 0, 1) := by decide +kernel
theorem dX8_draw_295 : decode cX8_draw 295 = .ok (.iload 6, 2) := by decide +kernel
theorem dX8_draw_297 : decode cX8_draw 297 = .ok (.sipush 1000, 3) := by decide +kernel
theorem dX8_draw_300 : decode cX8_draw 300 = .ok (.iload 7, 2) := by decide +kernel
theorem dX8_draw_302 : decode cX8_draw 302 = .ok (.imul, 1) := by decide +kernel
theorem dX8_draw_303 : decode cX8_draw 303 = .ok (.iload 8, 2) := by decide +kernel
theorem dX8_draw_305 : decode cX8_draw 305 = .ok (.iadd, 1) := by decide +kernel
theorem dX8_draw_306 : decode cX8_draw 306 = .ok (.iload 13, 2) := by decide +kernel
theorem dX8_draw_308 : decode cX8_draw 308 = .ok (.iload 14, 2) := by decide +kernel
theorem dX8_draw_310 : decode cX8_draw 310 = .ok (.bipush 10, 2) := by decide +kernel
theorem dX8_draw_312 : decode cX8_draw 312 = .ok (.iload 12, 2) := by decide +kernel
theorem dX8_draw_314 : decode cX8_draw 314 = .ok (.imul, 1) := by decide +kernel
theorem dX8_draw_315 : decode cX8_draw 315 = .ok (.iload 11, 2) := by decide +kernel
theorem dX8_draw_317 : decode cX8_draw 317 = .ok (.iadd, 1) := by decide +kernel
theorem dX8_draw_318 : decode cX8_draw 318 = .ok (.invokevirtual 445, 3) := by decide +kernel
theorem dX8_draw_321 : decode cX8_draw 321 = .ok (.istore 15, 2) := by decide +kernel
theorem dX8_draw_323 : decode cX8_draw 323 = .ok (.iinc 3 1, 3) := by decide +kernel
theorem dX8_draw_326 : decode cX8_draw 326 = .ok (.iinc 4 1, 3) := by decide +kernel
theorem dX8_draw_329 : decode cX8_draw 329 = .ok (.goto (-278), 3) := by decide +kernel
theorem dX8_draw_332 : decode cX8_draw 332 = .ok (.iload_n 3, 1) := by decide +kernel
theorem dX8_draw_333 : decode cX8_draw 333 = .ok (.ireturn, 1) := by decide +kernel
set_option maxHeartbeats 4000000 in
set_option maxRecDepth 100000 in
theorem t_X8_draw {l : Launch} {g : zG} {d : Nat} {s : zS} (hR : zRok s) {p0 : Int32} {p1 : Int32} {K : Int32 → zS → Prop} (h : (if (zinr p0.toInt64 (0 : Int64) (1000000 : Int64)) = true then (if (zinr p1.toInt64 (1 : Int64) (20 : Int64)) = true then (if (s.1 164 19) = 0 then K (-1 : Int32) s else (if (s.1 164 18) = 0 then K (-1 : Int32) s else zt l g (d + 1) M_X8_draw 51 [.ref 164, zJ, .int p1, .int (0 : Int32), .int (0 : Int32), zJ, zJ, zJ, zJ, zJ, zJ, zJ, zJ, zJ, zJ, zJ] [] (zLg s 164 44 p0.toInt64) (zKi K))) else K (-1 : Int32) s) else K (-1 : Int32) s)) : zc l g (d + 1) M_X8_draw [.ref 164, .int p0, .int p1] s (zKi K) := by
  refine zCall_of k_X8_draw (Nat.le_of_ble_eq_true rfl) (Nat.le_refl _) (fun _ => ?_)
  show zt l g (d + 1) M_X8_draw 0 [.ref 164, .int p0, .int p1, zJ, zJ, zJ, zJ, zJ, zJ, zJ, zJ, zJ, zJ, zJ, zJ, zJ] [] s (zKi K)
  refine z_iload_n (i := 1) dX8_draw_0 rfl rfl rfl ?_
  refine z_i2l dX8_draw_1 rfl ?_
  refine z_lconst (v := (0 : Int64)) dX8_draw_2 (by decide) rfl ?_
  refine z_ldc2 (v := (1000000 : Int64)) q_X8_404 dX8_draw_3 rfl ?_
  refine z_in m_X8_147 dX8_draw_6 (Nat.le_of_ble_eq_true rfl) rfl ?_
  refine z_ifb_eq (pt := 38) dX8_draw_9 (by decide) rfl (fun c => ?_) (fun c => ?_)
  · have h := zif h (by rw [c]; exact Bool.false_ne_true)
    refine z_iconst (v := (-1 : Int32)) dX8_draw_38 (by decide) rfl ?_
    exact z_ret (some (.int (-1 : Int32))) (Or.inr (Or.inl ⟨_, _, rfl, rfl, rfl, dX8_draw_39⟩)) zN200 ⟨_, rfl, h⟩
  · have h := zit h c
    refine z_iload_n (i := 2) dX8_draw_12 rfl rfl rfl ?_
    refine z_i2l dX8_draw_13 rfl ?_
    refine z_lconst (v := (1 : Int64)) dX8_draw_14 (by decide) rfl ?_
    refine z_ldc2 (v := (20 : Int64)) q_X8_203 dX8_draw_15 rfl ?_
    refine z_in m_X8_147 dX8_draw_18 (Nat.le_of_ble_eq_true rfl) rfl ?_
    refine z_ifb_eq (pt := 38) dX8_draw_21 (by decide) rfl (fun c => ?_) (fun c => ?_)
    · have h := zif h (by rw [c]; exact Bool.false_ne_true)
      refine z_iconst (v := (-1 : Int32)) dX8_draw_38 (by decide) rfl ?_
      exact z_ret (some (.int (-1 : Int32))) (Or.inr (Or.inl ⟨_, _, rfl, rfl, rfl, dX8_draw_39⟩)) zN200 ⟨_, rfl, h⟩
    · have h := zit h c
      refine z_aload_n (i := 0) dX8_draw_24 rfl rfl rfl ?_
      refine z_getI (x := s.1 164 19) rfl f_X8_183 i_164 rfl dX8_draw_25 rfl ?_
      refine z_if_eq (pt := 38) dX8_draw_28 (by decide) rfl (fun c => ?_) (fun c => ?_)
      · have h := zit h c
        refine z_iconst (v := (-1 : Int32)) dX8_draw_38 (by decide) rfl ?_
        exact z_ret (some (.int (-1 : Int32))) (Or.inr (Or.inl ⟨_, _, rfl, rfl, rfl, dX8_draw_39⟩)) zN200 ⟨_, rfl, h⟩
      · have h := zif h c
        refine z_aload_n (i := 0) dX8_draw_31 rfl rfl rfl ?_
        refine z_getI (x := s.1 164 18) rfl f_X8_180 i_164 rfl dX8_draw_32 rfl ?_
        refine z_if_ne (pt := 40) dX8_draw_35 (by decide) rfl (fun c => ?_) (fun c => ?_)
        · have h := zif h c
          refine z_aload_n (i := 0) dX8_draw_40 rfl rfl rfl ?_
          refine z_iload_n (i := 1) dX8_draw_41 rfl rfl rfl ?_
          refine z_i2l dX8_draw_42 rfl ?_
          refine z_putL f_X8_430 i_164 rfl (Or.inl rfl) rfl rfl dX8_draw_43 rfl ?_
          refine z_iconst (v := (0 : Int32)) dX8_draw_46 (by decide) rfl ?_
          refine z_istore_n (i := 3) dX8_draw_47 rfl (by decide) (zokd rfl) rfl ?_
          show zt l g (d + 1) M_X8_draw 48 [.ref 164, .int p0, .int p1, .int (0 : Int32), zJ, zJ, zJ, zJ, zJ, zJ, zJ, zJ, zJ, zJ, zJ, zJ] [] (zLg s 164 44 p0.toInt64) _
          refine z_iconst (v := (0 : Int32)) dX8_draw_48 (by decide) rfl ?_
          refine z_istore dX8_draw_49 (by decide) (zokd rfl) rfl ?_
          show zt l g (d + 1) M_X8_draw 51 [.ref 164, .int p0, .int p1, .int (0 : Int32), .int (0 : Int32), zJ, zJ, zJ, zJ, zJ, zJ, zJ, zJ, zJ, zJ, zJ] [] (zLg s 164 44 p0.toInt64) _
          refine z_wk (ls' := [.ref 164, zJ, .int p1, .int (0 : Int32), .int (0 : Int32), zJ, zJ, zJ, zJ, zJ, zJ, zJ, zJ, zJ, zJ, zJ]) ⟨Or.inr rfl, Or.inl rfl, Or.inr rfl, Or.inr rfl, Or.inr rfl, Or.inr rfl, Or.inr rfl, Or.inr rfl, Or.inr rfl, Or.inr rfl, Or.inr rfl, Or.inr rfl, Or.inr rfl, Or.inr rfl, Or.inr rfl, Or.inr rfl, trivial⟩ ?_
          exact h
        · have h := zit h c
          refine z_iconst (v := (-1 : Int32)) dX8_draw_38 (by decide) rfl ?_
          exact z_ret (some (.int (-1 : Int32))) (Or.inr (Or.inl ⟨_, _, rfl, rfl, rfl, dX8_draw_39⟩)) zN200 ⟨_, rfl, h⟩
set_option maxHeartbeats 4000000 in
set_option maxRecDepth 100000 in
theorem t_X8_draw_51 {l : Launch} {g : zG} {d : Nat} {s : zS} (hR : zRok s) {x2 : Int32} {x3 : Int32} {x4 : Int32} {K : Int32 → zS → Prop} (h : (if x2 ≤ x4 then K x3 s else (zc l g d M_X8_lot [.ref 164, .int (s.1 164 19)] s (zKi (fun r2 s1 => s1.2.2.1 = s.2.2.1 ∧ (zc l g d M_X8_lot [.ref 164, .int (s1.1 164 18)] s1 (zKi (fun r4 s3 => s3.2.2.1 = s1.2.2.1 ∧ (zc l g d M_X8_lot [.ref 164, .int (240 : Int32)] s3 (zKi (fun r6 s5 => s5.2.2.1 = s3.2.2.1 ∧ (zc l g d M_X8_lot [.ref 164, .int (10 : Int32)] s5 (zKi (fun r8 s7 => s7.2.2.1 = s5.2.2.1 ∧ (∀ v9 : Int32, v9 = zmin (239 : Int32) (r6 + r8) → (zc l g d M_X8_lot [.ref 164, .int (((2 : Int32) * (s7.1 164 25)) + (1 : Int32))] s7 (zKi (fun r11 s10 => s10.2.2.1 = s7.2.2.1 ∧ (zc l g d M_X8_lot [.ref 164, .int (((2 : Int32) * (s10.1 164 26)) + (1 : Int32))] s10 (zKi (fun r13 s12 => s12.2.2.1 = s10.2.2.1 ∧ (zc l g d M_X8_lot [.ref 164, .int (9 : Int32)] s12 (zKi (fun r15 s14 => s14.2.2.1 = s12.2.2.1 ∧ (zc l g d M_X8_lot [.ref 164, .int (2 : Int32)] s14 (zKi (fun r17 s16 => s16.2.2.1 = s14.2.2.1 ∧ (if (s16.1 164 24) = (60 : Int32) then zt l g (d + 1) M_X8_draw 51 [.ref 164, zJ, .int x2, .int x3, .int (x4 + (1 : Int32)), zJ, zJ, zJ, zJ, zJ, zJ, zJ, zJ, zJ, zJ, zJ] [] s16 (zKi K) else (zc l g d M_X8_isShown [.ref 164, .int r2, .int r4, .int r6] s16 (zKz (fun b19 s18 => s18.2.2.1 = s16.2.2.1 ∧ (if b19 = true then (zc l g d M_X8_isShown [.ref 164, .int r2, .int r4, .int v9] s18 (zKz (fun b21 s20 => s20.2.2.1 = s18.2.2.1 ∧ (if b21 = true then (zc l g d M_X8_way [.ref 164, .int r2, .int r4, .int r6] s20 (zKi (fun r23 s22 => s22.2.2.1 = s20.2.2.1 ∧ (zc l g d M_X8_slope [.ref 164, .int r2, .int r4, .int r6] s22 (zKi (fun r25 s24 => s24.2.2.1 = s22.2.2.1 ∧ (∀ v26 : Int32, v26 = ((1000 : Int32) * (zfm (r23 + (r11 - (s10.1 164 25))) (256 : Int32))) + (zmax (0 : Int32) (zmin (999 : Int32) (r25 + (r13 - (s12.1 164 26))))) → (zc l g d M_X8_way [.ref 164, .int r2, .int r4, .int v9] s24 (zKi (fun r28 s27 => s27.2.2.1 = s24.2.2.1 ∧ (zc l g d M_X8_slope [.ref 164, .int r2, .int r4, .int v9] s27 (zKi (fun r30 s29 => s29.2.2.1 = s27.2.2.1 ∧ (∀ v31 : Int32, v31 = ((1000 : Int32) * (zfm (r28 + (r11 - (s10.1 164 25))) (256 : Int32))) + (zmax (0 : Int32) (zmin (999 : Int32) (r30 + (r13 - (s12.1 164 26))))) → (zc l g d M_X8_tell [.ref 164, .int r4, .int (((1000 : Int32) * r6) + v9), .int v26, .int v31, .int (((10 : Int32) * r17) + (r15 + (1 : Int32)))] s29 (zKi (fun r33 s32 => s32.2.2.1 = s29.2.2.1 ∧ zt l g (d + 1) M_X8_draw 51 [.ref 164, zJ, .int x2, .int (x3 + (1 : Int32)), .int (x4 + (1 : Int32)), zJ, zJ, zJ, zJ, zJ, zJ, zJ, zJ, zJ, zJ, zJ] [] s32 (zKi K)))))))))))))))))) else zt l g (d + 1) M_X8_draw 51 [.ref 164, zJ, .int x2, .int x3, .int (x4 + (1 : Int32)), zJ, zJ, zJ, zJ, zJ, zJ, zJ, zJ, zJ, zJ, zJ] [] s20 (zKi K))))) else zt l g (d + 1) M_X8_draw 51 [.ref 164, zJ, .int x2, .int x3, .int (x4 + (1 : Int32)), zJ, zJ, zJ, zJ, zJ, zJ, zJ, zJ, zJ, zJ, zJ] [] s18 (zKi K))))))))))))))))))))))))))))))))) : zt l g (d + 1) M_X8_draw 51 [.ref 164, zJ, .int x2, .int x3, .int x4, zJ, zJ, zJ, zJ, zJ, zJ, zJ, zJ, zJ, zJ, zJ] [] s (zKi K) := by
  refine z_iload dX8_draw_51 rfl rfl ?_
  refine z_iload_n (i := 2) dX8_draw_53 rfl rfl rfl ?_
  refine z_icmp_ge (pt := 332) dX8_draw_54 (by decide) rfl (fun c => ?_) (fun c => ?_)
  · have h := zit h c
    refine z_iload_n (i := 3) dX8_draw_332 rfl rfl rfl ?_
    exact z_ret (some (.int x3)) (Or.inr (Or.inl ⟨_, _, rfl, rfl, rfl, dX8_draw_333⟩)) zN200 ⟨_, rfl, h⟩
  · have h := zif h c
    refine z_aload_n (i := 0) dX8_draw_57 rfl rfl rfl ?_
    refine z_aload_n (i := 0) dX8_draw_58 rfl rfl rfl ?_
    refine z_getI (x := s.1 164 19) rfl f_X8_183 i_164 rfl dX8_draw_59 rfl ?_
    refine z_callV k_X8_lot m_X8_442 (zRec_of i_164) rfl h rfl (Nat.le_of_ble_eq_true rfl) dX8_draw_62 zy200 rfl ?_
    rintro v s1 ⟨r2, rfl, hRs1, h⟩
    show zt l g (d + 1) M_X8_draw 65 [.ref 164, zJ, .int x2, .int x3, .int x4, zJ, zJ, zJ, zJ, zJ, zJ, zJ, zJ, zJ, zJ, zJ] [.int r2] s1 _
    refine z_istore dX8_draw_65 (by decide) (zokd rfl) rfl ?_
    show zt l g (d + 1) M_X8_draw 67 [.ref 164, zJ, .int x2, .int x3, .int x4, .int r2, zJ, zJ, zJ, zJ, zJ, zJ, zJ, zJ, zJ, zJ] [] s1 _
    refine z_aload_n (i := 0) dX8_draw_67 rfl rfl rfl ?_
    refine z_aload_n (i := 0) dX8_draw_68 rfl rfl rfl ?_
    refine z_getI (x := s1.1 164 18) rfl f_X8_180 i_164 rfl dX8_draw_69 rfl ?_
    refine z_callV k_X8_lot m_X8_442 (zRec_of i_164) rfl h rfl (Nat.le_of_ble_eq_true rfl) dX8_draw_72 zy200 rfl ?_
    rintro v s3 ⟨r4, rfl, hRs3, h⟩
    show zt l g (d + 1) M_X8_draw 75 [.ref 164, zJ, .int x2, .int x3, .int x4, .int r2, zJ, zJ, zJ, zJ, zJ, zJ, zJ, zJ, zJ, zJ] [.int r4] s3 _
    refine z_istore dX8_draw_75 (by decide) (zokd rfl) rfl ?_
    show zt l g (d + 1) M_X8_draw 77 [.ref 164, zJ, .int x2, .int x3, .int x4, .int r2, .int r4, zJ, zJ, zJ, zJ, zJ, zJ, zJ, zJ, zJ] [] s3 _
    refine z_aload_n (i := 0) dX8_draw_77 rfl rfl rfl ?_
    refine z_sipush (v := (240 : Int32)) dX8_draw_78 (by decide) rfl ?_
    refine z_callV k_X8_lot m_X8_442 (zRec_of i_164) rfl h rfl (Nat.le_of_ble_eq_true rfl) dX8_draw_81 zy200 rfl ?_
    rintro v s5 ⟨r6, rfl, hRs5, h⟩
    show zt l g (d + 1) M_X8_draw 84 [.ref 164, zJ, .int x2, .int x3, .int x4, .int r2, .int r4, zJ, zJ, zJ, zJ, zJ, zJ, zJ, zJ, zJ] [.int r6] s5 _
    refine z_istore dX8_draw_84 (by decide) (zokd rfl) rfl ?_
    show zt l g (d + 1) M_X8_draw 86 [.ref 164, zJ, .int x2, .int x3, .int x4, .int r2, .int r4, .int r6, zJ, zJ, zJ, zJ, zJ, zJ, zJ, zJ] [] s5 _
    refine z_sipush (v := (239 : Int32)) dX8_draw_86 (by decide) rfl ?_
    refine z_iload dX8_draw_89 rfl rfl ?_
    refine z_aload_n (i := 0) dX8_draw_91 rfl rfl rfl ?_
    refine z_bipush (v := (10 : Int32)) dX8_draw_92 (by decide) rfl ?_
    refine z_callV k_X8_lot m_X8_442 (zRec_of i_164) rfl h rfl (Nat.le_of_ble_eq_true rfl) dX8_draw_94 zy200 rfl ?_
    rintro v s7 ⟨r8, rfl, hRs7, h⟩
    show zt l g (d + 1) M_X8_draw 97 [.ref 164, zJ, .int x2, .int x3, .int x4, .int r2, .int r4, .int r6, zJ, zJ, zJ, zJ, zJ, zJ, zJ, zJ] [.int r8, .int r6, .int (239 : Int32)] s7 _
    refine z_iadd dX8_draw_97 rfl ?_
    refine z_mmin m_X8_165 dX8_draw_98 (Nat.le_of_ble_eq_true rfl) rfl ?_
    refine z_istore dX8_draw_101 (by decide) (zokd rfl) rfl ?_
    obtain ⟨v9, ev9⟩ : ∃ x : Int32, x = zmin (239 : Int32) (r6 + r8) := ⟨_, rfl⟩
    rw [← ev9]
    have h := h v9 ev9
    show zt l g (d + 1) M_X8_draw 103 [.ref 164, zJ, .int x2, .int x3, .int x4, .int r2, .int r4, .int r6, .int v9, zJ, zJ, zJ, zJ, zJ, zJ, zJ] [] s7 _
    refine z_aload_n (i := 0) dX8_draw_103 rfl rfl rfl ?_
    refine z_iconst (v := (2 : Int32)) dX8_draw_104 (by decide) rfl ?_
    refine z_aload_n (i := 0) dX8_draw_105 rfl rfl rfl ?_
    refine z_getI (x := s7.1 164 25) rfl f_X8_66 i_164 rfl dX8_draw_106 rfl ?_
    refine z_imul dX8_draw_109 rfl ?_
    refine z_iconst (v := (1 : Int32)) dX8_draw_110 (by decide) rfl ?_
    refine z_iadd dX8_draw_111 rfl ?_
    refine z_callV k_X8_lot m_X8_442 (zRec_of i_164) rfl h rfl (Nat.le_of_ble_eq_true rfl) dX8_draw_112 zy200 rfl ?_
    rintro v s10 ⟨r11, rfl, hRs10, h⟩
    show zt l g (d + 1) M_X8_draw 115 [.ref 164, zJ, .int x2, .int x3, .int x4, .int r2, .int r4, .int r6, .int v9, zJ, zJ, zJ, zJ, zJ, zJ, zJ] [.int r11] s10 _
    refine z_aload_n (i := 0) dX8_draw_115 rfl rfl rfl ?_
    refine z_getI (x := s10.1 164 25) rfl f_X8_66 i_164 rfl dX8_draw_116 rfl ?_
    refine z_isub dX8_draw_119 rfl ?_
    refine z_istore dX8_draw_120 (by decide) (zokd rfl) rfl ?_
    show zt l g (d + 1) M_X8_draw 122 [.ref 164, zJ, .int x2, .int x3, .int x4, .int r2, .int r4, .int r6, .int v9, .int (r11 - (s10.1 164 25)), zJ, zJ, zJ, zJ, zJ, zJ] [] s10 _
    refine z_aload_n (i := 0) dX8_draw_122 rfl rfl rfl ?_
    refine z_iconst (v := (2 : Int32)) dX8_draw_123 (by decide) rfl ?_
    refine z_aload_n (i := 0) dX8_draw_124 rfl rfl rfl ?_
    refine z_getI (x := s10.1 164 26) rfl f_X8_70 i_164 rfl dX8_draw_125 rfl ?_
    refine z_imul dX8_draw_128 rfl ?_
    refine z_iconst (v := (1 : Int32)) dX8_draw_129 (by decide) rfl ?_
    refine z_iadd dX8_draw_130 rfl ?_
    refine z_callV k_X8_lot m_X8_442 (zRec_of i_164) rfl h rfl (Nat.le_of_ble_eq_true rfl) dX8_draw_131 zy200 rfl ?_
    rintro v s12 ⟨r13, rfl, hRs12, h⟩
    show zt l g (d + 1) M_X8_draw 134 [.ref 164, zJ, .int x2, .int x3, .int x4, .int r2, .int r4, .int r6, .int v9, .int (r11 - (s10.1 164 25)), zJ, zJ, zJ, zJ, zJ, zJ] [.int r13] s12 _
    refine z_aload_n (i := 0) dX8_draw_134 rfl rfl rfl ?_
    refine z_getI (x := s12.1 164 26) rfl f_X8_70 i_164 rfl dX8_draw_135 rfl ?_
    refine z_isub dX8_draw_138 rfl ?_
    refine z_istore dX8_draw_139 (by decide) (zokd rfl) rfl ?_
    show zt l g (d + 1) M_X8_draw 141 [.ref 164, zJ, .int x2, .int x3, .int x4, .int r2, .int r4, .int r6, .int v9, .int (r11 - (s10.1 164 25)), .int (r13 - (s12.1 164 26)), zJ, zJ, zJ, zJ, zJ] [] s12 _
    refine z_aload_n (i := 0) dX8_draw_141 rfl rfl rfl ?_
    refine z_bipush (v := (9 : Int32)) dX8_draw_142 (by decide) rfl ?_
    refine z_callV k_X8_lot m_X8_442 (zRec_of i_164) rfl h rfl (Nat.le_of_ble_eq_true rfl) dX8_draw_144 zy200 rfl ?_
    rintro v s14 ⟨r15, rfl, hRs14, h⟩
    show zt l g (d + 1) M_X8_draw 147 [.ref 164, zJ, .int x2, .int x3, .int x4, .int r2, .int r4, .int r6, .int v9, .int (r11 - (s10.1 164 25)), .int (r13 - (s12.1 164 26)), zJ, zJ, zJ, zJ, zJ] [.int r15] s14 _
    refine z_iconst (v := (1 : Int32)) dX8_draw_147 (by decide) rfl ?_
    refine z_iadd dX8_draw_148 rfl ?_
    refine z_istore dX8_draw_149 (by decide) (zokd rfl) rfl ?_
    show zt l g (d + 1) M_X8_draw 151 [.ref 164, zJ, .int x2, .int x3, .int x4, .int r2, .int r4, .int r6, .int v9, .int (r11 - (s10.1 164 25)), .int (r13 - (s12.1 164 26)), .int (r15 + (1 : Int32)), zJ, zJ, zJ, zJ] [] s14 _
    refine z_aload_n (i := 0) dX8_draw_151 rfl rfl rfl ?_
    refine z_iconst (v := (2 : Int32)) dX8_draw_152 (by decide) rfl ?_
    refine z_callV k_X8_lot m_X8_442 (zRec_of i_164) rfl h rfl (Nat.le_of_ble_eq_true rfl) dX8_draw_153 zy200 rfl ?_
    rintro v s16 ⟨r17, rfl, hRs16, h⟩
    show zt l g (d + 1) M_X8_draw 156 [.ref 164, zJ, .int x2, .int x3, .int x4, .int r2, .int r4, .int r6, .int v9, .int (r11 - (s10.1 164 25)), .int (r13 - (s12.1 164 26)), .int (r15 + (1 : Int32)), zJ, zJ, zJ, zJ] [.int r17] s16 _
    refine z_istore dX8_draw_156 (by decide) (zokd rfl) rfl ?_
    show zt l g (d + 1) M_X8_draw 158 [.ref 164, zJ, .int x2, .int x3, .int x4, .int r2, .int r4, .int r6, .int v9, .int (r11 - (s10.1 164 25)), .int (r13 - (s12.1 164 26)), .int (r15 + (1 : Int32)), .int r17, zJ, zJ, zJ] [] s16 _
    refine z_aload_n (i := 0) dX8_draw_158 rfl rfl rfl ?_
    refine z_getI (x := s16.1 164 24) rfl f_X8_270 i_164 rfl dX8_draw_159 rfl ?_
    refine z_bipush (v := (60 : Int32)) dX8_draw_162 (by decide) rfl ?_
    refine z_icmp_eq (pt := 326) dX8_draw_164 (by decide) rfl (fun c => ?_) (fun c => ?_)
    · have h := zit h c
      refine z_iinc (v := x4 + (1 : Int32)) dX8_draw_326 rfl rfl (by decide) (zokd rfl) rfl ?_
      show zt l g (d + 1) M_X8_draw 329 [.ref 164, zJ, .int x2, .int x3, .int (x4 + (1 : Int32)), .int r2, .int r4, .int r6, .int v9, .int (r11 - (s10.1 164 25)), .int (r13 - (s12.1 164 26)), .int (r15 + (1 : Int32)), .int r17, zJ, zJ, zJ] [] s16 _
      refine z_goto (pn := 51) dX8_draw_329 (by decide) ?_
      refine z_wk (ls' := [.ref 164, zJ, .int x2, .int x3, .int (x4 + (1 : Int32)), zJ, zJ, zJ, zJ, zJ, zJ, zJ, zJ, zJ, zJ, zJ]) ⟨Or.inr rfl, Or.inr rfl, Or.inr rfl, Or.inr rfl, Or.inr rfl, Or.inl rfl, Or.inl rfl, Or.inl rfl, Or.inl rfl, Or.inl rfl, Or.inl rfl, Or.inl rfl, Or.inl rfl, Or.inr rfl, Or.inr rfl, Or.inr rfl, trivial⟩ ?_
      exact h
    · have h := zif h c
      refine z_aload_n (i := 0) dX8_draw_167 rfl rfl rfl ?_
      refine z_iload dX8_draw_168 rfl rfl ?_
      refine z_iload dX8_draw_170 rfl rfl ?_
      refine z_iload dX8_draw_172 rfl rfl ?_
      refine z_callV k_X8_isShown m_X8_255 (zRec_of i_164) rfl h rfl (Nat.le_of_ble_eq_true rfl) dX8_draw_174 zy200 rfl ?_
      rintro v s18 ⟨b19, rfl, hRs18, h⟩
      show zt l g (d + 1) M_X8_draw 177 [.ref 164, zJ, .int x2, .int x3, .int x4, .int r2, .int r4, .int r6, .int v9, .int (r11 - (s10.1 164 25)), .int (r13 - (s12.1 164 26)), .int (r15 + (1 : Int32)), .int r17, zJ, zJ, zJ] [.int (zb b19)] s18 _
      refine z_ifb_eq (pt := 326) dX8_draw_177 (by decide) rfl (fun c => ?_) (fun c => ?_)
      · have h := zif h (by rw [c]; exact Bool.false_ne_true)
        refine z_iinc (v := x4 + (1 : Int32)) dX8_draw_326 rfl rfl (by decide) (zokd rfl) rfl ?_
        show zt l g (d + 1) M_X8_draw 329 [.ref 164, zJ, .int x2, .int x3, .int (x4 + (1 : Int32)), .int r2, .int r4, .int r6, .int v9, .int (r11 - (s10.1 164 25)), .int (r13 - (s12.1 164 26)), .int (r15 + (1 : Int32)), .int r17, zJ, zJ, zJ] [] s18 _
        refine z_goto (pn := 51) dX8_draw_329 (by decide) ?_
        refine z_wk (ls' := [.ref 164, zJ, .int x2, .int x3, .int (x4 + (1 : Int32)), zJ, zJ, zJ, zJ, zJ, zJ, zJ, zJ, zJ, zJ, zJ]) ⟨Or.inr rfl, Or.inr rfl, Or.inr rfl, Or.inr rfl, Or.inr rfl, Or.inl rfl, Or.inl rfl, Or.inl rfl, Or.inl rfl, Or.inl rfl, Or.inl rfl, Or.inl rfl, Or.inl rfl, Or.inr rfl, Or.inr rfl, Or.inr rfl, trivial⟩ ?_
        exact h
      · have h := zit h c
        refine z_aload_n (i := 0) dX8_draw_180 rfl rfl rfl ?_
        refine z_iload dX8_draw_181 rfl rfl ?_
        refine z_iload dX8_draw_183 rfl rfl ?_
        refine z_iload dX8_draw_185 rfl rfl ?_
        refine z_callV k_X8_isShown m_X8_255 (zRec_of i_164) rfl h rfl (Nat.le_of_ble_eq_true rfl) dX8_draw_187 zy200 rfl ?_
        rintro v s20 ⟨b21, rfl, hRs20, h⟩
        show zt l g (d + 1) M_X8_draw 190 [.ref 164, zJ, .int x2, .int x3, .int x4, .int r2, .int r4, .int r6, .int v9, .int (r11 - (s10.1 164 25)), .int (r13 - (s12.1 164 26)), .int (r15 + (1 : Int32)), .int r17, zJ, zJ, zJ] [.int (zb b21)] s20 _
        refine z_ifb_ne (pt := 196) dX8_draw_190 (by decide) rfl (fun c => ?_) (fun c => ?_)
        · have h := zit h c
          refine z_sipush (v := (1000 : Int32)) dX8_draw_196 (by decide) rfl ?_
          refine z_aload_n (i := 0) dX8_draw_199 rfl rfl rfl ?_
          refine z_iload dX8_draw_200 rfl rfl ?_
          refine z_iload dX8_draw_202 rfl rfl ?_
          refine z_iload dX8_draw_204 rfl rfl ?_
          refine z_callV k_X8_way m_X8_259 (zRec_of i_164) rfl h rfl (Nat.le_of_ble_eq_true rfl) dX8_draw_206 zy200 rfl ?_
          rintro v s22 ⟨r23, rfl, hRs22, h⟩
          show zt l g (d + 1) M_X8_draw 209 [.ref 164, zJ, .int x2, .int x3, .int x4, .int r2, .int r4, .int r6, .int v9, .int (r11 - (s10.1 164 25)), .int (r13 - (s12.1 164 26)), .int (r15 + (1 : Int32)), .int r17, zJ, zJ, zJ] [.int r23, .int (1000 : Int32)] s22 _
          refine z_iload dX8_draw_209 rfl rfl ?_
          refine z_iadd dX8_draw_211 rfl ?_
          refine z_sipush (v := (256 : Int32)) dX8_draw_212 (by decide) rfl ?_
          refine z_fmod m_X8_242 (by decide) dX8_draw_215 (Nat.le_of_ble_eq_true rfl) rfl ?_
          refine z_imul dX8_draw_218 rfl ?_
          refine z_iconst (v := (0 : Int32)) dX8_draw_219 (by decide) rfl ?_
          refine z_sipush (v := (999 : Int32)) dX8_draw_220 (by decide) rfl ?_
          refine z_aload_n (i := 0) dX8_draw_223 rfl rfl rfl ?_
          refine z_iload dX8_draw_224 rfl rfl ?_
          refine z_iload dX8_draw_226 rfl rfl ?_
          refine z_iload dX8_draw_228 rfl rfl ?_
          refine z_callV k_X8_slope m_X8_261 (zRec_of i_164) rfl h rfl (Nat.le_of_ble_eq_true rfl) dX8_draw_230 zy200 rfl ?_
          rintro v s24 ⟨r25, rfl, hRs24, h⟩
          show zt l g (d + 1) M_X8_draw 233 [.ref 164, zJ, .int x2, .int x3, .int x4, .int r2, .int r4, .int r6, .int v9, .int (r11 - (s10.1 164 25)), .int (r13 - (s12.1 164 26)), .int (r15 + (1 : Int32)), .int r17, zJ, zJ, zJ] [.int r25, .int (999 : Int32), .int (0 : Int32), .int ((1000 : Int32) * (zfm (r23 + (r11 - (s10.1 164 25))) (256 : Int32)))] s24 _
          refine z_iload dX8_draw_233 rfl rfl ?_
          refine z_iadd dX8_draw_235 rfl ?_
          refine z_mmin m_X8_165 dX8_draw_236 (Nat.le_of_ble_eq_true rfl) rfl ?_
          refine z_mmax m_X8_171 dX8_draw_239 (Nat.le_of_ble_eq_true rfl) rfl ?_
          refine z_iadd dX8_draw_242 rfl ?_
          refine z_istore dX8_draw_243 (by decide) (zokd rfl) rfl ?_
          obtain ⟨v26, ev26⟩ : ∃ x : Int32, x = ((1000 : Int32) * (zfm (r23 + (r11 - (s10.1 164 25))) (256 : Int32))) + (zmax (0 : Int32) (zmin (999 : Int32) (r25 + (r13 - (s12.1 164 26))))) := ⟨_, rfl⟩
          rw [← ev26]
          have h := h v26 ev26
          show zt l g (d + 1) M_X8_draw 245 [.ref 164, zJ, .int x2, .int x3, .int x4, .int r2, .int r4, .int r6, .int v9, .int (r11 - (s10.1 164 25)), .int (r13 - (s12.1 164 26)), .int (r15 + (1 : Int32)), .int r17, .int v26, zJ, zJ] [] s24 _
          refine z_sipush (v := (1000 : Int32)) dX8_draw_245 (by decide) rfl ?_
          refine z_aload_n (i := 0) dX8_draw_248 rfl rfl rfl ?_
          refine z_iload dX8_draw_249 rfl rfl ?_
          refine z_iload dX8_draw_251 rfl rfl ?_
          refine z_iload dX8_draw_253 rfl rfl ?_
          refine z_callV k_X8_way m_X8_259 (zRec_of i_164) rfl h rfl (Nat.le_of_ble_eq_true rfl) dX8_draw_255 zy200 rfl ?_
          rintro v s27 ⟨r28, rfl, hRs27, h⟩
          show zt l g (d + 1) M_X8_draw 258 [.ref 164, zJ, .int x2, .int x3, .int x4, .int r2, .int r4, .int r6, .int v9, .int (r11 - (s10.1 164 25)), .int (r13 - (s12.1 164 26)), .int (r15 + (1 : Int32)), .int r17, .int v26, zJ, zJ] [.int r28, .int (1000 : Int32)] s27 _
          refine z_iload dX8_draw_258 rfl rfl ?_
          refine z_iadd dX8_draw_260 rfl ?_
          refine z_sipush (v := (256 : Int32)) dX8_draw_261 (by decide) rfl ?_
          refine z_fmod m_X8_242 (by decide) dX8_draw_264 (Nat.le_of_ble_eq_true rfl) rfl ?_
          refine z_imul dX8_draw_267 rfl ?_
          refine z_iconst (v := (0 : Int32)) dX8_draw_268 (by decide) rfl ?_
          refine z_sipush (v := (999 : Int32)) dX8_draw_269 (by decide) rfl ?_
          refine z_aload_n (i := 0) dX8_draw_272 rfl rfl rfl ?_
          refine z_iload dX8_draw_273 rfl rfl ?_
          refine z_iload dX8_draw_275 rfl rfl ?_
          refine z_iload dX8_draw_277 rfl rfl ?_
          refine z_callV k_X8_slope m_X8_261 (zRec_of i_164) rfl h rfl (Nat.le_of_ble_eq_true rfl) dX8_draw_279 zy200 rfl ?_
          rintro v s29 ⟨r30, rfl, hRs29, h⟩
          show zt l g (d + 1) M_X8_draw 282 [.ref 164, zJ, .int x2, .int x3, .int x4, .int r2, .int r4, .int r6, .int v9, .int (r11 - (s10.1 164 25)), .int (r13 - (s12.1 164 26)), .int (r15 + (1 : Int32)), .int r17, .int v26, zJ, zJ] [.int r30, .int (999 : Int32), .int (0 : Int32), .int ((1000 : Int32) * (zfm (r28 + (r11 - (s10.1 164 25))) (256 : Int32)))] s29 _
          refine z_iload dX8_draw_282 rfl rfl ?_
          refine z_iadd dX8_draw_284 rfl ?_
          refine z_mmin m_X8_165 dX8_draw_285 (Nat.le_of_ble_eq_true rfl) rfl ?_
          refine z_mmax m_X8_171 dX8_draw_288 (Nat.le_of_ble_eq_true rfl) rfl ?_
          refine z_iadd dX8_draw_291 rfl ?_
          refine z_istore dX8_draw_292 (by decide) (zokd rfl) rfl ?_
          obtain ⟨v31, ev31⟩ : ∃ x : Int32, x = ((1000 : Int32) * (zfm (r28 + (r11 - (s10.1 164 25))) (256 : Int32))) + (zmax (0 : Int32) (zmin (999 : Int32) (r30 + (r13 - (s12.1 164 26))))) := ⟨_, rfl⟩
          rw [← ev31]
          have h := h v31 ev31
          show zt l g (d + 1) M_X8_draw 294 [.ref 164, zJ, .int x2, .int x3, .int x4, .int r2, .int r4, .int r6, .int v9, .int (r11 - (s10.1 164 25)), .int (r13 - (s12.1 164 26)), .int (r15 + (1 : Int32)), .int r17, .int v26, .int v31, zJ] [] s29 _
          refine z_aload_n (i := 0) dX8_draw_294 rfl rfl rfl ?_
          refine z_iload dX8_draw_295 rfl rfl ?_
          refine z_sipush (v := (1000 : Int32)) dX8_draw_297 (by decide) rfl ?_
          refine z_iload dX8_draw_300 rfl rfl ?_
          refine z_imul dX8_draw_302 rfl ?_
          refine z_iload dX8_draw_303 rfl rfl ?_
          refine z_iadd dX8_draw_305 rfl ?_
          refine z_iload dX8_draw_306 rfl rfl ?_
          refine z_iload dX8_draw_308 rfl rfl ?_
          refine z_bipush (v := (10 : Int32)) dX8_draw_310 (by decide) rfl ?_
          refine z_iload dX8_draw_312 rfl rfl ?_
          refine z_imul dX8_draw_314 rfl ?_
          refine z_iload dX8_draw_315 rfl rfl ?_
          refine z_iadd dX8_draw_317 rfl ?_
          refine z_callV k_X8_tell m_X8_445 (zRec_of i_164) rfl h rfl (Nat.le_of_ble_eq_true rfl) dX8_draw_318 zy200 rfl ?_
          rintro v s32 ⟨r33, rfl, hRs32, h⟩
          show zt l g (d + 1) M_X8_draw 321 [.ref 164, zJ, .int x2, .int x3, .int x4, .int r2, .int r4, .int r6, .int v9, .int (r11 - (s10.1 164 25)), .int (r13 - (s12.1 164 26)), .int (r15 + (1 : Int32)), .int r17, .int v26, .int v31, zJ] [.int r33] s32 _
          refine z_istore dX8_draw_321 (by decide) (zokd rfl) rfl ?_
          show zt l g (d + 1) M_X8_draw 323 [.ref 164, zJ, .int x2, .int x3, .int x4, .int r2, .int r4, .int r6, .int v9, .int (r11 - (s10.1 164 25)), .int (r13 - (s12.1 164 26)), .int (r15 + (1 : Int32)), .int r17, .int v26, .int v31, .int r33] [] s32 _
          refine z_iinc (v := x3 + (1 : Int32)) dX8_draw_323 rfl rfl (by decide) (zokd rfl) rfl ?_
          show zt l g (d + 1) M_X8_draw 326 [.ref 164, zJ, .int x2, .int (x3 + (1 : Int32)), .int x4, .int r2, .int r4, .int r6, .int v9, .int (r11 - (s10.1 164 25)), .int (r13 - (s12.1 164 26)), .int (r15 + (1 : Int32)), .int r17, .int v26, .int v31, .int r33] [] s32 _
          refine z_iinc (v := x4 + (1 : Int32)) dX8_draw_326 rfl rfl (by decide) (zokd rfl) rfl ?_
          show zt l g (d + 1) M_X8_draw 329 [.ref 164, zJ, .int x2, .int (x3 + (1 : Int32)), .int (x4 + (1 : Int32)), .int r2, .int r4, .int r6, .int v9, .int (r11 - (s10.1 164 25)), .int (r13 - (s12.1 164 26)), .int (r15 + (1 : Int32)), .int r17, .int v26, .int v31, .int r33] [] s32 _
          refine z_goto (pn := 51) dX8_draw_329 (by decide) ?_
          refine z_wk (ls' := [.ref 164, zJ, .int x2, .int (x3 + (1 : Int32)), .int (x4 + (1 : Int32)), zJ, zJ, zJ, zJ, zJ, zJ, zJ, zJ, zJ, zJ, zJ]) ⟨Or.inr rfl, Or.inr rfl, Or.inr rfl, Or.inr rfl, Or.inr rfl, Or.inl rfl, Or.inl rfl, Or.inl rfl, Or.inl rfl, Or.inl rfl, Or.inl rfl, Or.inl rfl, Or.inl rfl, Or.inl rfl, Or.inl rfl, Or.inl rfl, trivial⟩ ?_
          exact h
        · have h := zif h (by rw [c]; exact Bool.false_ne_true)
          refine z_goto (pn := 326) dX8_draw_193 (by decide) ?_
          refine z_iinc (v := x4 + (1 : Int32)) dX8_draw_326 rfl rfl (by decide) (zokd rfl) rfl ?_
          show zt l g (d + 1) M_X8_draw 329 [.ref 164, zJ, .int x2, .int x3, .int (x4 + (1 : Int32)), .int r2, .int r4, .int r6, .int v9, .int (r11 - (s10.1 164 25)), .int (r13 - (s12.1 164 26)), .int (r15 + (1 : Int32)), .int r17, zJ, zJ, zJ] [] s20 _
          refine z_goto (pn := 51) dX8_draw_329 (by decide) ?_
          refine z_wk (ls' := [.ref 164, zJ, .int x2, .int x3, .int (x4 + (1 : Int32)), zJ, zJ, zJ, zJ, zJ, zJ, zJ, zJ, zJ, zJ, zJ]) ⟨Or.inr rfl, Or.inr rfl, Or.inr rfl, Or.inr rfl, Or.inr rfl, Or.inl rfl, Or.inl rfl, Or.inl rfl, Or.inl rfl, Or.inl rfl, Or.inl rfl, Or.inl rfl, Or.inl rfl, Or.inr rfl, Or.inr rfl, Or.inr rfl, trivial⟩ ?_
          exact h
theorem dX8_count_0 : decode cX8_count 0 = .ok (.iload_n 1, 1) := by decide +kernel
theorem dX8_count_1 : decode cX8_count 1 = .ok (.tableswitch 89 0 7 #[47, 52, 57, 62, 67, 74, 79, 84], 47) := by decide +kernel
theorem dX8_count_48 : decode cX8_count 48 = .ok (.aload_n 0, 1) := by decide +kernel
theorem dX8_count_49 : decode cX8_count 49 = .ok (.getfield 162, 3) := by decide +kernel
theorem dX8_count_52 : decode cX8_count 52 = .ok (.ireturn, 1) := by decide +kernel
theorem dX8_count_53 : decode cX8_count 53 = .ok (.aload_n 0, 1) := by decide +kernel
theorem dX8_count_54 : decode cX8_count 54 = .ok (.getfield 180, 3) := by decide +kernel
theorem dX8_count_57 : decode cX8_count 57 = .ok (.ireturn, 1) := by decide +kernel
theorem dX8_count_58 : decode cX8_count 58 = .ok (.aload_n 0, 1) := by decide +kernel
theorem dX8_count_59 : decode cX8_count 59 = .ok (.getfield 183, 3) := by decide +kernel
theorem dX8_count_62 : decode cX8_count 62 = .ok (.ireturn, 1) := by decide +kernel
theorem dX8_count_63 : decode cX8_count 63 = .ok (.aload_n 0, 1) := by decide +kernel
theorem dX8_count_64 : decode cX8_count 64 = .ok (.getfield 270, 3) := by decide +kernel
theorem dX8_count_67 : decode cX8_count 67 = .ok (.ireturn, 1) := by decide +kernel
theorem dX8_count_68 : decode cX8_count 68 = .ok (.aload_n 0, 1) := by decide +kernel
theorem dX8_count_69 : decode cX8_count 69 = .ok (.getfield 92, 3) := by decide +kernel
theorem dX8_count_72 : decode cX8_count 72 = .ok (.iconst 0, 1) := by decide +kernel
theorem dX8_count_73 : decode cX8_count 73 = .ok (.iaload, 1) := by decide +kernel
theorem dX8_count_74 : decode cX8_count 74 = .ok (.ireturn, 1) := by decide +kernel
theorem dX8_count_75 : decode cX8_count 75 = .ok (.aload_n 0, 1) := by decide +kernel
theorem dX8_count_76 : decode cX8_count 76 = .ok (.getfield 66, 3) := by decide +kernel
theorem dX8_count_79 : decode cX8_count 79 = .ok (.ireturn, 1) := by decide +kernel
theorem dX8_count_80 : decode cX8_count 80 = .ok (.aload_n 0, 1) := by decide +kernel
theorem dX8_count_81 : decode cX8_count 81 = .ok (.getfield 70, 3) := by decide +kernel
theorem dX8_count_84 : decode cX8_count 84 = .ok (.ireturn, 1) := by decide +kernel
theorem dX8_count_85 : decode cX8_count 85 = .ok (.aload_n 0, 1) := by decide +kernel
theorem dX8_count_86 : decode cX8_count 86 = .ok (.getfield 322, 3) := by decide +kernel
theorem dX8_count_89 : decode cX8_count 89 = .ok (.ireturn, 1) := by decide +kernel
theorem dX8_count_90 : decode cX8_count 90 = .ok (.iconst (-1), 1) := by decide +kernel
theorem dX8_count_91 : decode cX8_count 91 = .ok (.ireturn, 1) := by decide +kernel
set_option maxHeartbeats 4000000 in
set_option maxRecDepth 100000 in
theorem t_X8_count {l : Launch} {g : zG} {d : Nat} {s : zS} (hR : zRok s) {p0 : Int32} {K : Int32 → zS → Prop} (h : (if p0 = (0 : Int32) then K (s.1 164 17) s else (if p0 = (1 : Int32) then K (s.1 164 18) s else (if p0 = (2 : Int32) then K (s.1 164 19) s else (if p0 = (3 : Int32) then K (s.1 164 24) s else (if p0 = (4 : Int32) then K (s.1 257 0) s else (if p0 = (5 : Int32) then K (s.1 164 25) s else (if p0 = (6 : Int32) then K (s.1 164 26) s else (if p0 = (7 : Int32) then K (s.1 164 29) s else K (-1 : Int32) s))))))))) : zc l g d M_X8_count [.ref 164, .int p0] s (zKi K) := by
  refine zCall_of k_X8_count (Nat.le_of_ble_eq_true rfl) (Nat.le_refl _) (fun _ => ?_)
  show zt l g d M_X8_count 0 [.ref 164, .int p0] [] s (zKi K)
  refine z_iload_n (i := 1) dX8_count_0 rfl rfl rfl ?_
  by_cases c0 : p0 = (0 : Int32)
  · have h := zit h c0
    refine z_tableIn (pt := 48) dX8_count_1 (by rw [c0]; decide) (by rw [c0]; decide) (by rw [c0]; rfl) (by decide) ?_
    refine z_aload_n (i := 0) dX8_count_48 rfl rfl rfl ?_
    refine z_getI (x := s.1 164 17) rfl f_X8_162 i_164 rfl dX8_count_49 rfl ?_
    exact z_ret (some (.int (s.1 164 17))) (Or.inr (Or.inl ⟨_, _, rfl, rfl, rfl, dX8_count_52⟩)) zN200 ⟨_, rfl, h⟩
  have h := zif h c0
  by_cases c1 : p0 = (1 : Int32)
  · have h := zit h c1
    refine z_tableIn (pt := 53) dX8_count_1 (by rw [c1]; decide) (by rw [c1]; decide) (by rw [c1]; rfl) (by decide) ?_
    refine z_aload_n (i := 0) dX8_count_53 rfl rfl rfl ?_
    refine z_getI (x := s.1 164 18) rfl f_X8_180 i_164 rfl dX8_count_54 rfl ?_
    exact z_ret (some (.int (s.1 164 18))) (Or.inr (Or.inl ⟨_, _, rfl, rfl, rfl, dX8_count_57⟩)) zN200 ⟨_, rfl, h⟩
  have h := zif h c1
  by_cases c2 : p0 = (2 : Int32)
  · have h := zit h c2
    refine z_tableIn (pt := 58) dX8_count_1 (by rw [c2]; decide) (by rw [c2]; decide) (by rw [c2]; rfl) (by decide) ?_
    refine z_aload_n (i := 0) dX8_count_58 rfl rfl rfl ?_
    refine z_getI (x := s.1 164 19) rfl f_X8_183 i_164 rfl dX8_count_59 rfl ?_
    exact z_ret (some (.int (s.1 164 19))) (Or.inr (Or.inl ⟨_, _, rfl, rfl, rfl, dX8_count_62⟩)) zN200 ⟨_, rfl, h⟩
  have h := zif h c2
  by_cases c3 : p0 = (3 : Int32)
  · have h := zit h c3
    refine z_tableIn (pt := 63) dX8_count_1 (by rw [c3]; decide) (by rw [c3]; decide) (by rw [c3]; rfl) (by decide) ?_
    refine z_aload_n (i := 0) dX8_count_63 rfl rfl rfl ?_
    refine z_getI (x := s.1 164 24) rfl f_X8_270 i_164 rfl dX8_count_64 rfl ?_
    exact z_ret (some (.int (s.1 164 24))) (Or.inr (Or.inl ⟨_, _, rfl, rfl, rfl, dX8_count_67⟩)) zN200 ⟨_, rfl, h⟩
  have h := zif h c3
  by_cases c4 : p0 = (4 : Int32)
  · have h := zit h c4
    refine z_tableIn (pt := 68) dX8_count_1 (by rw [c4]; decide) (by rw [c4]; decide) (by rw [c4]; rfl) (by decide) ?_
    refine z_aload_n (i := 0) dX8_count_68 rfl rfl rfl ?_
    refine z_getR (q := 257) f_X8_92 i_164 rfl (r_164_37 hR) (by decide) dX8_count_69 rfl ?_
    refine z_iconst (v := (0 : Int32)) dX8_count_72 (by decide) rfl ?_
    refine z_iald (x := s.1 257 0) rfl a_257 (by unfold vp_in; decide) dX8_count_73 rfl ?_
    exact z_ret (some (.int (s.1 257 0))) (Or.inr (Or.inl ⟨_, _, rfl, rfl, rfl, dX8_count_74⟩)) zN200 ⟨_, rfl, h⟩
  have h := zif h c4
  by_cases c5 : p0 = (5 : Int32)
  · have h := zit h c5
    refine z_tableIn (pt := 75) dX8_count_1 (by rw [c5]; decide) (by rw [c5]; decide) (by rw [c5]; rfl) (by decide) ?_
    refine z_aload_n (i := 0) dX8_count_75 rfl rfl rfl ?_
    refine z_getI (x := s.1 164 25) rfl f_X8_66 i_164 rfl dX8_count_76 rfl ?_
    exact z_ret (some (.int (s.1 164 25))) (Or.inr (Or.inl ⟨_, _, rfl, rfl, rfl, dX8_count_79⟩)) zN200 ⟨_, rfl, h⟩
  have h := zif h c5
  by_cases c6 : p0 = (6 : Int32)
  · have h := zit h c6
    refine z_tableIn (pt := 80) dX8_count_1 (by rw [c6]; decide) (by rw [c6]; decide) (by rw [c6]; rfl) (by decide) ?_
    refine z_aload_n (i := 0) dX8_count_80 rfl rfl rfl ?_
    refine z_getI (x := s.1 164 26) rfl f_X8_70 i_164 rfl dX8_count_81 rfl ?_
    exact z_ret (some (.int (s.1 164 26))) (Or.inr (Or.inl ⟨_, _, rfl, rfl, rfl, dX8_count_84⟩)) zN200 ⟨_, rfl, h⟩
  have h := zif h c6
  by_cases c7 : p0 = (7 : Int32)
  · have h := zit h c7
    refine z_tableIn (pt := 85) dX8_count_1 (by rw [c7]; decide) (by rw [c7]; decide) (by rw [c7]; rfl) (by decide) ?_
    refine z_aload_n (i := 0) dX8_count_85 rfl rfl rfl ?_
    refine z_getI (x := s.1 164 29) rfl f_X8_322 i_164 rfl dX8_count_86 rfl ?_
    exact z_ret (some (.int (s.1 164 29))) (Or.inr (Or.inl ⟨_, _, rfl, rfl, rfl, dX8_count_89⟩)) zN200 ⟨_, rfl, h⟩
  have h := zif h c7
  refine z_tableOut (pt := 90) dX8_count_1 (z_swout 0 8 (fun j hj => ?_)) (by decide) ?_
  · rcases (show j = 0 ∨ j = 1 ∨ j = 2 ∨ j = 3 ∨ j = 4 ∨ j = 5 ∨ j = 6 ∨ j = 7 by omega) with rfl | rfl | rfl | rfl | rfl | rfl | rfl | rfl
    · exact c0
    · exact c1
    · exact c2
    · exact c3
    · exact c4
    · exact c5
    · exact c6
    · exact c7
  · refine z_iconst (v := (-1 : Int32)) dX8_count_90 (by decide) rfl ?_
    exact z_ret (some (.int (-1 : Int32))) (Or.inr (Or.inl ⟨_, _, rfl, rfl, rfl, dX8_count_91⟩)) zN200 ⟨_, rfl, h⟩
