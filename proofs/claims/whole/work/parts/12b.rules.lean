set_option maxHeartbeats 4000000 in
set_option maxRecDepth 100000 in
theorem t_X7_rules {l : Launch} {g : zG} {d : Nat} {s : zS} (hR : zRok s)  {rn : Nat} (hrn : s.2.2.1 64 15 = rn) (hrb : rn = 79 ∨ rn = 85) {rp : Nat} (hrp : s.2.2.1 64 16 = rp) (hrq : rp = 79 ∨ rp = 85) {K : Int32 → zS → Prop} (h : (zc l g d M_X2_judge [.ref 75, .ref rp] s (zKi (fun r2 s1 => s1.2.2.1 = s.2.2.1 ∧ (if r2 = (-1 : Int32) then K (s1.1 rp 5) (zI (zRf (zRf s1 64 15 rp) 64 16 rn) 75 1 (0 : Int32)) else K (-1 : Int32) s1))))) : zc l g (d + 1) M_X7_rules [.ref 64] s (zKi K) := by
  refine zCall_of k_X7_rules (Nat.le_of_ble_eq_true rfl) (Nat.le_refl _) (fun _ => ?_)
  show zt l g (d + 1) M_X7_rules 0 [.ref 64, zJ] [] s (zKi K)
  refine z_aload_n (i := 0) dX7_rules_0 rfl rfl rfl ?_
  refine z_getR (q := 75) f_X7_67 i_64 rfl (r_64_14 hR) (by decide) dX7_rules_1 rfl ?_
  refine z_aload_n (i := 0) dX7_rules_4 rfl rfl rfl ?_
  refine z_getR (q := rp) f_X7_78 i_64 rfl (hrp) (by omega) dX7_rules_5 rfl ?_
  refine z_callV k_X2_judge m_X7_306 (zRec_of i_75) rfl h rfl (Nat.le_of_ble_eq_true rfl) dX7_rules_8 zy200 rfl ?_
  rintro v s1 ⟨r2, rfl, hRs1, h⟩
  show zt l g (d + 1) M_X7_rules 11 [.ref 64, zJ] [.int r2] s1 _
  refine z_iconst (v := (-1 : Int32)) dX7_rules_11 (by decide) rfl ?_
  refine z_icmp_eq (pt := 17) dX7_rules_12 (by decide) rfl (fun c => ?_) (fun c => ?_)
  · have h := zit h c
    refine z_aload_n (i := 0) dX7_rules_17 rfl rfl rfl ?_
    refine z_getR (q := rn) f_X7_74 i_64 rfl ((congrArg (fun f => f 64 15) hRs1).trans (hrn)) (by omega) dX7_rules_18 rfl ?_
    refine z_astore_n (i := 1) dX7_rules_21 rfl (by decide) (zokd rfl) rfl ?_
    show zt l g (d + 1) M_X7_rules 22 [.ref 64, .ref rn] [] s1 _
    refine z_aload_n (i := 0) dX7_rules_22 rfl rfl rfl ?_
    refine z_aload_n (i := 0) dX7_rules_23 rfl rfl rfl ?_
    refine z_getR (q := rp) f_X7_78 i_64 rfl ((congrArg (fun f => f 64 16) hRs1).trans (hrp)) (by omega) dX7_rules_24 rfl ?_
    refine z_putR f_X7_74 i_64 rfl (by omega) (Or.inl rfl) rfl rfl dX7_rules_27 rfl ?_
    refine z_aload_n (i := 0) dX7_rules_30 rfl rfl rfl ?_
    refine z_aload_n (i := 1) dX7_rules_31 rfl rfl rfl ?_
    refine z_putR f_X7_78 i_64 rfl (by omega) (Or.inl rfl) rfl rfl dX7_rules_32 rfl ?_
    refine z_aload_n (i := 0) dX7_rules_35 rfl rfl rfl ?_
    refine z_getR (q := 75) f_X7_67 i_64 rfl (r_64_14 (s := s1) (zRok_of hRs1 hR)) (by decide) dX7_rules_36 rfl ?_
    refine z_iconst (v := (0 : Int32)) dX7_rules_39 (by decide) rfl ?_
    refine z_putI f_X7_299 i_75 rfl (Or.inl rfl) rfl rfl dX7_rules_40 rfl ?_
    refine z_aload_n (i := 0) dX7_rules_43 rfl rfl rfl ?_
    refine z_getR (q := rp) f_X7_74 i_64 rfl (by simp [zRf, zI]) (by omega) dX7_rules_44 rfl ?_
    refine z_getI (x := s1.1 rp 5) (zI_k (by decide)) f_X7_310 (i_Ru hrq) rfl dX7_rules_47 rfl ?_
    exact z_ret (some (.int (s1.1 rp 5))) (Or.inr (Or.inl ⟨_, _, rfl, rfl, rfl, dX7_rules_50⟩)) zN200 ⟨_, rfl, h⟩
  · have h := zif h c
    refine z_iconst (v := (-1 : Int32)) dX7_rules_15 (by decide) rfl ?_
    exact z_ret (some (.int (-1 : Int32))) (Or.inr (Or.inl ⟨_, _, rfl, rfl, rfl, dX7_rules_16⟩)) zN200 ⟨_, rfl, h⟩
