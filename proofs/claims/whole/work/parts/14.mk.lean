/-! ===== the makers ===== -/
theorem w_oi : Cond.instanceMethod Lib.objectInit ∈ lw_g := zin 24 (by decide +kernel) (by decide +kernel)
theorem w_oc : Cond.code Lib.objectInit ⟨#[0xb1]⟩ 1 none ∈ lw_g := zin 25 (by decide +kernel) (by decide +kernel)
theorem w_aI : Cond.arrayClass .int ∈ lw_g := zin 50 (by decide +kernel) (by decide +kernel)
theorem w_aB : Cond.arrayClass .byte ∈ lw_g := zin 887 (by decide +kernel) (by decide +kernel)
theorem w_aZ : Cond.arrayClass .boolean ∈ lw_g := zin 1127 (by decide +kernel) (by decide +kernel)
theorem cl_L_7 : Cond.classLink RL 7 (zRn 7) ∈ lw_g := zin 18 (by decide +kernel) (by decide +kernel)
theorem in_7 : Cond.instantiable (zRn 7) (zN 7) ∈ lw_g := zin 19 (by decide +kernel) (by decide +kernel)
theorem ii_7 : Cond.initialized (zRn 7) ∈ lw_g := zin 1 (by decide +kernel) (by decide +kernel)
theorem oi_X7 : Cond.methodLink RX7 3 Lib.objectInit ∈ lw_g := zin 23 (by decide +kernel) (by decide +kernel)
theorem cl_X7_9 : Cond.classLink RX7 9 (zRn 1) ∈ lw_g := zin 26 (by decide +kernel) (by decide +kernel)
theorem in_1 : Cond.instantiable (zRn 1) (zN 1) ∈ lw_g := zin 27 (by decide +kernel) (by decide +kernel)
theorem ii_1 : Cond.initialized (zRn 1) ∈ lw_g := zin 2 (by decide +kernel) (by decide +kernel)
theorem oi_X1 : Cond.methodLink RX1 3 Lib.objectInit ∈ lw_g := zin 31 (by decide +kernel) (by decide +kernel)
theorem cl_X7_16 : Cond.classLink RX7 16 (zRn 4) ∈ lw_g := zin 51 (by decide +kernel) (by decide +kernel)
theorem in_4 : Cond.instantiable (zRn 4) (zN 4) ∈ lw_g := zin 52 (by decide +kernel) (by decide +kernel)
theorem ii_4 : Cond.initialized (zRn 4) ∈ lw_g := zin 4 (by decide +kernel) (by decide +kernel)
theorem oi_X4 : Cond.methodLink RX4 3 Lib.objectInit ∈ lw_g := zin 56 (by decide +kernel) (by decide +kernel)
theorem cl_X7_29 : Cond.classLink RX7 29 (zRn 6) ∈ lw_g := zin 90 (by decide +kernel) (by decide +kernel)
theorem cl_X7_35 : Cond.classLink RX7 35 (zRn 5) ∈ lw_g := zin 92 (by decide +kernel) (by decide +kernel)
theorem cl_X7_57 : Cond.classLink RX7 57 (zRn 0) ∈ lw_g := zin 94 (by decide +kernel) (by decide +kernel)
theorem in_0 : Cond.instantiable (zRn 0) (zN 0) ∈ lw_g := zin 95 (by decide +kernel) (by decide +kernel)
theorem ii_0 : Cond.initialized (zRn 0) ∈ lw_g := zin 5 (by decide +kernel) (by decide +kernel)
theorem oi_X0 : Cond.methodLink RX0 3 Lib.objectInit ∈ lw_g := zin 99 (by decide +kernel) (by decide +kernel)
theorem cl_X7_64 : Cond.classLink RX7 64 (zRn 2) ∈ lw_g := zin 119 (by decide +kernel) (by decide +kernel)
theorem in_2 : Cond.instantiable (zRn 2) (zN 2) ∈ lw_g := zin 120 (by decide +kernel) (by decide +kernel)
theorem ii_2 : Cond.initialized (zRn 2) ∈ lw_g := zin 6 (by decide +kernel) (by decide +kernel)
theorem oi_X2 : Cond.methodLink RX2 3 Lib.objectInit ∈ lw_g := zin 124 (by decide +kernel) (by decide +kernel)
theorem cl_X7_71 : Cond.classLink RX7 71 (zRn 3) ∈ lw_g := zin 145 (by decide +kernel) (by decide +kernel)
theorem in_3 : Cond.instantiable (zRn 3) (zN 3) ∈ lw_g := zin 146 (by decide +kernel) (by decide +kernel)
theorem ii_3 : Cond.initialized (zRn 3) ∈ lw_g := zin 7 (by decide +kernel) (by decide +kernel)
theorem oi_X3 : Cond.methodLink RX3 3 Lib.objectInit ∈ lw_g := zin 150 (by decide +kernel) (by decide +kernel)
theorem in_6 : Cond.instantiable (zRn 6) (zN 6) ∈ lw_g := zin 190 (by decide +kernel) (by decide +kernel)
theorem ii_6 : Cond.initialized (zRn 6) ∈ lw_g := zin 8 (by decide +kernel) (by decide +kernel)
theorem oi_X6 : Cond.methodLink RX6 3 Lib.objectInit ∈ lw_g := zin 194 (by decide +kernel) (by decide +kernel)
theorem in_5 : Cond.instantiable (zRn 5) (zN 5) ∈ lw_g := zin 257 (by decide +kernel) (by decide +kernel)
theorem ii_5 : Cond.initialized (zRn 5) ∈ lw_g := zin 9 (by decide +kernel) (by decide +kernel)
theorem oi_X5 : Cond.methodLink RX5 3 Lib.objectInit ∈ lw_g := zin 261 (by decide +kernel) (by decide +kernel)
theorem cl_L_10 : Cond.classLink RL 10 (zRn 8) ∈ lw_g := zin 967 (by decide +kernel) (by decide +kernel)
theorem in_8 : Cond.instantiable (zRn 8) (zN 8) ∈ lw_g := zin 968 (by decide +kernel) (by decide +kernel)
theorem ii_8 : Cond.initialized (zRn 8) ∈ lw_g := zin 10 (by decide +kernel) (by decide +kernel)
theorem oi_X8 : Cond.methodLink RX8 1 Lib.objectInit ∈ lw_g := zin 972 (by decide +kernel) (by decide +kernel)
theorem cl_X8_61 : Cond.classLink RX8 61 ("[" ++ (FieldType.array .int).toString) ∈ lw_g := zin 973 (by decide +kernel) (by decide +kernel)
theorem cl_X8_108 : Cond.classLink RX8 108 ("java/lang/String") ∈ lw_g := zin 975 (by decide +kernel) (by decide +kernel)
section ZMI
variable {l : Launch} {g : zG} {d : Nat} {σ : zS}
theorem zcln_M {q a n : Nat} (h : zcln σ) (hN : σ.2.2.2 = n) (hq : 64 + n = q) : zcln (zMul σ q a n) := fun p k hp => by
  have hp : 64 + (n + 1 + a) ≤ p := hp
  have := h p k (by omega)
  refine ⟨this.1, this.2.1, ?_⟩
  show (if p = q ∧ k < a then q + 1 + k else σ.2.2.1 p k) = 0
  rw [if_neg (by omega)]
  exact this.2.2
/-- o's first n places hold v -/
def zFill (σ : zS) (o n : Nat) (v : Int32) : zS := (fun p k => if p = o ∧ k < n then v else σ.1 p k, σ.2)
theorem zFill_0 {o : Nat} {v : Int32} : zFill σ o 0 v = σ := by
  unfold zFill
  refine Prod.ext ?_ rfl
  funext p k
  simp
theorem zFill_s {o n : Nat} {v : Int32} : zI (zFill σ o n v) o n v = zFill σ o (n + 1) v := by
  unfold zFill zI
  refine Prod.ext ?_ rfl
  funext p k
  show (if p = o ∧ k = n then v else if p = o ∧ k < n then v else σ.1 p k) = if p = o ∧ k < n + 1 then v else σ.1 p k
  by_cases h1 : p = o ∧ k = n
  · rw [if_pos h1, if_pos (by omega)]
  · rw [if_neg h1]
    by_cases h2 : p = o ∧ k < n
    · rw [if_pos h2, if_pos (by omega)]
    · rw [if_neg h2, if_neg (by omega)]
theorem zcln_F {o n : Nat} {v : Int32} (h : zcln σ) (ho : o < 64 + σ.2.2.2) : zcln (zFill σ o n v) := fun p q hp => by
  have hp : 64 + σ.2.2.2 ≤ p := hp
  refine ⟨?_, (h p q hp).2.1, (h p q hp).2.2⟩
  show (if p = o ∧ q < n then v else σ.1 p q) = 0
  rw [if_neg (by omega)]
  exact (h p q hp).1
theorem dJ7_fill_53178_0 : decode cJ7_fill_53178 0 = .ok (.iconst 0, 1) := by decide +kernel
theorem dJ7_fill_53178_1 : decode cJ7_fill_53178 1 = .ok (.istore_n 2, 1) := by decide +kernel
theorem dJ7_fill_53178_2 : decode cJ7_fill_53178 2 = .ok (.aload_n 0, 1) := by decide +kernel
theorem dJ7_fill_53178_3 : decode cJ7_fill_53178 3 = .ok (.arraylength, 1) := by decide +kernel
theorem dJ7_fill_53178_4 : decode cJ7_fill_53178 4 = .ok (.istore_n 3, 1) := by decide +kernel
theorem dJ7_fill_53178_5 : decode cJ7_fill_53178 5 = .ok (.iload_n 2, 1) := by decide +kernel
theorem dJ7_fill_53178_6 : decode cJ7_fill_53178 6 = .ok (.iload_n 3, 1) := by decide +kernel
theorem dJ7_fill_53178_7 : decode cJ7_fill_53178 7 = .ok (.if_icmp .ge 13, 3) := by decide +kernel
theorem dJ7_fill_53178_10 : decode cJ7_fill_53178 10 = .ok (.aload_n 0, 1) := by decide +kernel
theorem dJ7_fill_53178_11 : decode cJ7_fill_53178 11 = .ok (.iload_n 2, 1) := by decide +kernel
theorem dJ7_fill_53178_12 : decode cJ7_fill_53178 12 = .ok (.iload_n 1, 1) := by decide +kernel
theorem dJ7_fill_53178_13 : decode cJ7_fill_53178 13 = .ok (.iastore, 1) := by decide +kernel
theorem dJ7_fill_53178_14 : decode cJ7_fill_53178 14 = .ok (.iinc 2 1, 3) := by decide +kernel
theorem dJ7_fill_53178_17 : decode cJ7_fill_53178 17 = .ok (.goto (-12), 3) := by decide +kernel
theorem dJ7_fill_53178_20 : decode cJ7_fill_53178 20 = .ok (.return_, 1) := by decide +kernel
theorem fill_loop {z N o : Nat} {v : Int32} {s : zS} {K : zS → Prop} (hN : s.2.2.2 = z) (ho : zk o = 20 ∧ zn o = N ∧ 64 ≤ o ∧ o < 64 + z) (hNb : N < 2 ^ 31) : ∀ n k : Nat, k + n = N → K (zFill s o N v) → zAt l g d z z M_J7_fill_53178 5 [.ref o, .int v, .int (nI k), .int (nI N)] [] (zFill s o k v) (zKv K) := by
  intro n
  have ha : ∀ k, zAr (zFill s o k v) z 20 N o := fun k => ⟨ho.1, ho.2.1, ho.2.2.1, fun _ => by show o < 64 + s.2.2.2; rw [hN]; exact ho.2.2.2⟩
  induction n with
  | zero =>
    intro k hk h
    refine z_iload_n (i := 2) dJ7_fill_53178_5 rfl rfl rfl ?_
    refine z_iload_n (i := 3) dJ7_fill_53178_6 rfl rfl rfl ?_
    refine z_icmp_ge (pt := 20) dJ7_fill_53178_7 (by decide) rfl (fun _ => ?_) (fun c => absurd (nI_le (by omega) (by omega)) c)
    refine z_ret none (Or.inl ⟨rfl, rfl, dJ7_fill_53178_20⟩) (fun _ _ => by show s.2.2.2 = z; exact hN) ⟨rfl, ?_⟩
    rw [show k = N by omega]
    exact h
  | succ n ih =>
    intro k hk h
    refine z_iload_n (i := 2) dJ7_fill_53178_5 rfl rfl rfl ?_
    refine z_iload_n (i := 3) dJ7_fill_53178_6 rfl rfl rfl ?_
    refine z_icmp_ge (pt := 20) dJ7_fill_53178_7 (by decide) rfl (fun c => absurd c (nI_ge (by omega) hNb)) (fun _ => ?_)
    refine z_aload_n (i := 0) dJ7_fill_53178_10 rfl rfl rfl ?_
    refine z_iload_n (i := 2) dJ7_fill_53178_11 rfl rfl rfl ?_
    refine z_iload_n (i := 1) dJ7_fill_53178_12 rfl rfl rfl ?_
    refine z_iast (ha k) (vp_in_nI (by omega) hNb) dJ7_fill_53178_13 rfl ?_
    refine z_iinc (v := nI (k + 1)) dJ7_fill_53178_14 rfl (nI_succ k).symm (by decide) (zokd rfl) rfl ?_
    refine z_goto (pn := 5) dJ7_fill_53178_17 (by decide) ?_
    rw [nI_clamp (by omega), zFill_s]
    exact ih (k + 1) (by omega) h
theorem c_fill {z N o : Nat} {v : Int32} {s : zS} {K : zS → Prop} (hN : s.2.2.2 = z) (ho : zk o = 20 ∧ zn o = N ∧ 64 ≤ o ∧ o < 64 + z) (hNb : N < 2 ^ 31) (h : K (zFill s o N v)) : zCall l g d z z M_J7_fill_53178 [.ref o, .int v] s (zKv K) := by
  refine zCall_of k_J7_fill_53178 (Nat.le_of_ble_eq_true rfl) (Nat.le_refl _) (fun _ => ?_)
  show zAt l g d z z M_J7_fill_53178 0 [.ref o, .int v, zJ, zJ] [] s (zKv K)
  refine z_iconst (v := 0) dJ7_fill_53178_0 (by decide) rfl ?_
  refine z_istore_n (i := 2) dJ7_fill_53178_1 rfl (by decide) (zokd rfl) rfl ?_
  refine z_aload_n (i := 0) dJ7_fill_53178_2 rfl rfl rfl ?_
  refine z_alen (v := nI N) (by decide) ⟨ho.1, ho.2.1, ho.2.2.1, fun _ => by rw [hN]; exact ho.2.2.2⟩ rfl dJ7_fill_53178_3 rfl ?_
  refine z_istore_n (i := 3) dJ7_fill_53178_4 rfl (by decide) (zokd rfl) rfl ?_
  have := fill_loop (l := l) (g := g) (d := d) (v := v) hN ho hNb N 0 (by omega) h
  rw [zFill_0] at this
  exact this
end ZMI
theorem dX1_init_0 : decode cX1_init 0 = .ok (.aload_n 0, 1) := by decide +kernel
theorem dX1_init_1 : decode cX1_init 1 = .ok (.invokespecial 3, 3) := by decide +kernel
theorem dX1_init_4 : decode cX1_init 4 = .ok (.aload_n 0, 1) := by decide +kernel
theorem dX1_init_5 : decode cX1_init 5 = .ok (.sipush 4096, 3) := by decide +kernel
theorem dX1_init_8 : decode cX1_init 8 = .ok (.newarray .int, 2) := by decide +kernel
theorem dX1_init_10 : decode cX1_init 10 = .ok (.putfield 9, 3) := by decide +kernel
theorem dX1_init_13 : decode cX1_init 13 = .ok (.aload_n 0, 1) := by decide +kernel
theorem dX1_init_14 : decode cX1_init 14 = .ok (.sipush 4096, 3) := by decide +kernel
theorem dX1_init_17 : decode cX1_init 17 = .ok (.newarray .int, 2) := by decide +kernel
theorem dX1_init_19 : decode cX1_init 19 = .ok (.putfield 15, 3) := by decide +kernel
theorem dX1_init_22 : decode cX1_init 22 = .ok (.aload_n 0, 1) := by decide +kernel
theorem dX1_init_23 : decode cX1_init 23 = .ok (.getfield 15, 3) := by decide +kernel
theorem dX1_init_26 : decode cX1_init 26 = .ok (.iconst (-1), 1) := by decide +kernel
theorem dX1_init_27 : decode cX1_init 27 = .ok (.invokestatic 18, 3) := by decide +kernel
theorem dX1_init_30 : decode cX1_init 30 = .ok (.return_, 1) := by decide +kernel
def mkLand (s : zS) : zS := zFill (zRf (zNn (zRf (zNn s 3) 65 0 66) 4) 65 1 67) 67 4096 (-1 : Int32)
theorem cl_mkLand {s : zS} (hN : s.2.2.2 = 2) (hC : zcln s) : zcln (mkLand s) := (zcln_F (zcln_R (zcln_N (zcln_R (zcln_N hC (by show s.2.2.2 ≤ 3; rw [hN]; decide)) (by show 65 < 64 + 3; decide)) (by show 3 ≤ 4; decide)) (by show 65 < 64 + 4; decide)) (by show 67 < 64 + 4; decide))
set_option maxRecDepth 100000 in
set_option maxHeartbeats 4000000 in
theorem c_mkLand {l : Launch} {g : zG} {d : Nat} {s : zS} (hN : s.2.2.2 = 2) (hC : zcln s) {K : zS → Prop} (h : K (mkLand s)) : zCall l g (d + 2) 2 4 M_X1_init [.ref 65] s (zKv K) := by
  refine zCall_of k_X1_init (Nat.le_of_ble_eq_true rfl) (by decide) (fun _ => ?_)
  show zAt l g (d + 2) 2 4 M_X1_init 0 [.ref 65] [] s (zKv K)
  refine z_aload_n (i := 0) dX1_init_0 rfl rfl rfl ?_
  refine z_objInit oi_X1 w_oi w_oc dX1_init_1 (Nat.le_of_ble_eq_true rfl) rfl ?_
  refine z_aload_n (i := 0) dX1_init_4 rfl rfl rfl ?_
  refine z_sipush (v := (4096 : Int32)) dX1_init_5 (by decide) rfl ?_
  refine z_newa (atype := .int) (n := 2) (kd := 20) (len := 4096) (q := 66) rfl (fun _ _ h9 => h9) w_aI (by decide) (by decide) (by decide) (by decide) (by decide) rfl (by decide) hN (by decide : 64 + 2 = 66) hC (by decide) dX1_init_8 rfl ?_
  refine z_putR f_X1_9 ⟨zCl1, by decide, by decide, (fun _ => by show 65 < 64 + 3; decide)⟩ rfl (by decide) (Or.inr ⟨rfl, rfl, rfl, zin 35 (by decide +kernel) (by decide +kernel)⟩) rfl rfl dX1_init_10 rfl ?_
  refine z_aload_n (i := 0) dX1_init_13 rfl rfl rfl ?_
  refine z_sipush (v := (4096 : Int32)) dX1_init_14 (by decide) rfl ?_
  refine z_newa (atype := .int) (n := 3) (kd := 20) (len := 4096) (q := 67) rfl (fun _ _ h9 => h9) w_aI (by decide) (by decide) (by decide) (by decide) (by decide) rfl (by decide) rfl (by decide : 64 + 3 = 67) (zcln_R (zcln_N hC (by show s.2.2.2 ≤ 3; rw [hN]; decide)) (by show 65 < 64 + 3; decide)) (by decide) dX1_init_17 rfl ?_
  refine z_putR f_X1_15 ⟨zCl1, by decide, by decide, (fun _ => by show 65 < 64 + 4; decide)⟩ rfl (by decide) (Or.inr ⟨rfl, rfl, rfl, zin 36 (by decide +kernel) (by decide +kernel)⟩) rfl rfl dX1_init_19 rfl ?_
  refine z_aload_n (i := 0) dX1_init_22 rfl rfl rfl ?_
  refine z_getR (q := 67) f_X1_15 ⟨zCl1, by decide, by decide, (fun _ => by show 65 < 64 + 4; decide)⟩ rfl (by rfl) (by decide) dX1_init_23 rfl ?_
  refine z_iconst (v := (-1 : Int32)) dX1_init_26 (by decide) rfl ?_
  refine z_callS (y0 := 4) (y1 := 4) (as := [.ref 67, .int (-1 : Int32)]) k_J7_fill_53178 m_X1_18 rfl (c_fill (N := 4096) rfl (by decide) (by decide) (K := fun s1 => s1 = zFill (zRf (zNn (zRf (zNn s 3) 65 0 66) 4) 65 1 67) 67 4096 (-1 : Int32)) rfl) rfl (Nat.le_of_ble_eq_true rfl) dX1_init_27 (fun _ _ => ⟨rfl, by decide, by decide⟩) rfl ?_
  rintro v _ ⟨rfl, rfl⟩
  exact z_ret none (Or.inl ⟨rfl, rfl, dX1_init_30⟩) (fun _ _ => rfl) ⟨rfl, h⟩
theorem dX4_init_0 : decode cX4_init 0 = .ok (.aload_n 0, 1) := by decide +kernel
theorem dX4_init_1 : decode cX4_init 1 = .ok (.invokespecial 3, 3) := by decide +kernel
theorem dX4_init_4 : decode cX4_init 4 = .ok (.aload_n 0, 1) := by decide +kernel
theorem dX4_init_5 : decode cX4_init 5 = .ok (.aload_n 1, 1) := by decide +kernel
theorem dX4_init_6 : decode cX4_init 6 = .ok (.putfield 9, 3) := by decide +kernel
theorem dX4_init_9 : decode cX4_init 9 = .ok (.return_, 1) := by decide +kernel
def mkSight (s : zS) : zS := zRf s 68 0 65
theorem cl_mkSight {s : zS} (hN : s.2.2.2 = 5) (hC : zcln s) : zcln (mkSight s) := (zcln_R hC (by show 68 < 64 + (s).2.2.2; rw [hN]; decide))
set_option maxRecDepth 100000 in
set_option maxHeartbeats 4000000 in
theorem c_mkSight {l : Launch} {g : zG} {d : Nat} {s : zS} (hN : s.2.2.2 = 5) (hC : zcln s) {K : zS → Prop} (h : K (mkSight s)) : zCall l g (d + 1) 5 5 M_X4_init [.ref 68, .ref 65] s (zKv K) := by
  refine zCall_of k_X4_init (Nat.le_of_ble_eq_true rfl) (by decide) (fun _ => ?_)
  show zAt l g (d + 1) 5 5 M_X4_init 0 [.ref 68, .ref 65] [] s (zKv K)
  refine z_aload_n (i := 0) dX4_init_0 rfl rfl rfl ?_
  refine z_objInit oi_X4 w_oi w_oc dX4_init_1 (Nat.le_of_ble_eq_true rfl) rfl ?_
  refine z_aload_n (i := 0) dX4_init_4 rfl rfl rfl ?_
  refine z_aload_n (i := 1) dX4_init_5 rfl rfl rfl ?_
  refine z_putR f_X4_9 ⟨zCl4, by decide, by decide, (fun _ => by show 68 < 64 + (s).2.2.2; rw [hN]; decide)⟩ rfl (by decide) (Or.inr ⟨rfl, rfl, rfl, zin 57 (by decide +kernel) (by decide +kernel)⟩) rfl rfl dX4_init_6 rfl ?_
  exact z_ret none (Or.inl ⟨rfl, rfl, dX4_init_9⟩) (fun _ _ => hN) ⟨rfl, h⟩
theorem dX0_init_0 : decode cX0_init 0 = .ok (.aload_n 0, 1) := by decide +kernel
theorem dX0_init_1 : decode cX0_init 1 = .ok (.invokespecial 3, 3) := by decide +kernel
theorem dX0_init_4 : decode cX0_init 4 = .ok (.return_, 1) := by decide +kernel
def mkCross (s : zS) : zS := s
theorem cl_mkCross {s : zS} (hN : s.2.2.2 = 11) (hC : zcln s) : zcln (mkCross s) := hC
set_option maxRecDepth 100000 in
set_option maxHeartbeats 4000000 in
theorem c_mkCross {l : Launch} {g : zG} {d : Nat} {s : zS} (hN : s.2.2.2 = 11) (hC : zcln s) {K : zS → Prop} (h : K (mkCross s)) : zCall l g (d + 1) 11 11 M_X0_init [.ref 74] s (zKv K) := by
  refine zCall_of k_X0_init (Nat.le_of_ble_eq_true rfl) (by decide) (fun _ => ?_)
  show zAt l g (d + 1) 11 11 M_X0_init 0 [.ref 74] [] s (zKv K)
  refine z_aload_n (i := 0) dX0_init_0 rfl rfl rfl ?_
  refine z_objInit oi_X0 w_oi w_oc dX0_init_1 (Nat.le_of_ble_eq_true rfl) rfl ?_
  exact z_ret none (Or.inl ⟨rfl, rfl, dX0_init_4⟩) (fun _ _ => hN) ⟨rfl, h⟩
theorem dX2_init_0 : decode cX2_init 0 = .ok (.aload_n 0, 1) := by decide +kernel
theorem dX2_init_1 : decode cX2_init 1 = .ok (.invokespecial 3, 3) := by decide +kernel
theorem dX2_init_4 : decode cX2_init 4 = .ok (.aload_n 0, 1) := by decide +kernel
theorem dX2_init_5 : decode cX2_init 5 = .ok (.sipush 400, 3) := by decide +kernel
theorem dX2_init_8 : decode cX2_init 8 = .ok (.newarray .int, 2) := by decide +kernel
theorem dX2_init_10 : decode cX2_init 10 = .ok (.putfield 9, 3) := by decide +kernel
theorem dX2_init_13 : decode cX2_init 13 = .ok (.aload_n 0, 1) := by decide +kernel
theorem dX2_init_14 : decode cX2_init 14 = .ok (.sipush 401, 3) := by decide +kernel
theorem dX2_init_17 : decode cX2_init 17 = .ok (.newarray .int, 2) := by decide +kernel
theorem dX2_init_19 : decode cX2_init 19 = .ok (.putfield 15, 3) := by decide +kernel
theorem dX2_init_22 : decode cX2_init 22 = .ok (.aload_n 0, 1) := by decide +kernel
theorem dX2_init_23 : decode cX2_init 23 = .ok (.sipush 401, 3) := by decide +kernel
theorem dX2_init_26 : decode cX2_init 26 = .ok (.newarray .int, 2) := by decide +kernel
theorem dX2_init_28 : decode cX2_init 28 = .ok (.putfield 18, 3) := by decide +kernel
theorem dX2_init_31 : decode cX2_init 31 = .ok (.return_, 1) := by decide +kernel
def mkReader (s : zS) : zS := zRf (zNn (zRf (zNn (zRf (zNn s 13) 75 0 76) 14) 75 2 77) 15) 75 3 78
theorem cl_mkReader {s : zS} (hN : s.2.2.2 = 12) (hC : zcln s) : zcln (mkReader s) := (zcln_R (zcln_N (zcln_R (zcln_N (zcln_R (zcln_N hC (by show s.2.2.2 ≤ 13; rw [hN]; decide)) (by show 75 < 64 + 13; decide)) (by show 13 ≤ 14; decide)) (by show 75 < 64 + 14; decide)) (by show 14 ≤ 15; decide)) (by show 75 < 64 + 15; decide))
set_option maxRecDepth 100000 in
set_option maxHeartbeats 4000000 in
theorem c_mkReader {l : Launch} {g : zG} {d : Nat} {s : zS} (hN : s.2.2.2 = 12) (hC : zcln s) {K : zS → Prop} (h : K (mkReader s)) : zCall l g (d + 1) 12 15 M_X2_init [.ref 75] s (zKv K) := by
  refine zCall_of k_X2_init (Nat.le_of_ble_eq_true rfl) (by decide) (fun _ => ?_)
  show zAt l g (d + 1) 12 15 M_X2_init 0 [.ref 75] [] s (zKv K)
  refine z_aload_n (i := 0) dX2_init_0 rfl rfl rfl ?_
  refine z_objInit oi_X2 w_oi w_oc dX2_init_1 (Nat.le_of_ble_eq_true rfl) rfl ?_
  refine z_aload_n (i := 0) dX2_init_4 rfl rfl rfl ?_
  refine z_sipush (v := (400 : Int32)) dX2_init_5 (by decide) rfl ?_
  refine z_newa (atype := .int) (n := 12) (kd := 20) (len := 400) (q := 76) rfl (fun _ _ h9 => h9) w_aI (by decide) (by decide) (by decide) (by decide) (by decide) rfl (by decide) hN (by decide : 64 + 12 = 76) hC (by decide) dX2_init_8 rfl ?_
  refine z_putR f_X2_9 ⟨zCl2, by decide, by decide, (fun _ => by show 75 < 64 + 13; decide)⟩ rfl (by decide) (Or.inr ⟨rfl, rfl, rfl, zin 125 (by decide +kernel) (by decide +kernel)⟩) rfl rfl dX2_init_10 rfl ?_
  refine z_aload_n (i := 0) dX2_init_13 rfl rfl rfl ?_
  refine z_sipush (v := (401 : Int32)) dX2_init_14 (by decide) rfl ?_
  refine z_newa (atype := .int) (n := 13) (kd := 20) (len := 401) (q := 77) rfl (fun _ _ h9 => h9) w_aI (by decide) (by decide) (by decide) (by decide) (by decide) rfl (by decide) rfl (by decide : 64 + 13 = 77) (zcln_R (zcln_N hC (by show s.2.2.2 ≤ 13; rw [hN]; decide)) (by show 75 < 64 + 13; decide)) (by decide) dX2_init_17 rfl ?_
  refine z_putR f_X2_15 ⟨zCl2, by decide, by decide, (fun _ => by show 75 < 64 + 14; decide)⟩ rfl (by decide) (Or.inr ⟨rfl, rfl, rfl, zin 128 (by decide +kernel) (by decide +kernel)⟩) rfl rfl dX2_init_19 rfl ?_
  refine z_aload_n (i := 0) dX2_init_22 rfl rfl rfl ?_
  refine z_sipush (v := (401 : Int32)) dX2_init_23 (by decide) rfl ?_
  refine z_newa (atype := .int) (n := 14) (kd := 20) (len := 401) (q := 78) rfl (fun _ _ h9 => h9) w_aI (by decide) (by decide) (by decide) (by decide) (by decide) rfl (by decide) rfl (by decide : 64 + 14 = 78) (zcln_R (zcln_N (zcln_R (zcln_N hC (by show s.2.2.2 ≤ 13; rw [hN]; decide)) (by show 75 < 64 + 13; decide)) (by show 13 ≤ 14; decide)) (by show 75 < 64 + 14; decide)) (by decide) dX2_init_26 rfl ?_
  refine z_putR f_X2_18 ⟨zCl2, by decide, by decide, (fun _ => by show 75 < 64 + 15; decide)⟩ rfl (by decide) (Or.inr ⟨rfl, rfl, rfl, zin 129 (by decide +kernel) (by decide +kernel)⟩) rfl rfl dX2_init_28 rfl ?_
  exact z_ret none (Or.inl ⟨rfl, rfl, dX2_init_31⟩) (fun _ _ => rfl) ⟨rfl, h⟩
theorem dX3_init_0 : decode cX3_init 0 = .ok (.aload_n 0, 1) := by decide +kernel
theorem dX3_init_1 : decode cX3_init 1 = .ok (.invokespecial 3, 3) := by decide +kernel
theorem dX3_init_4 : decode cX3_init 4 = .ok (.aload_n 0, 1) := by decide +kernel
theorem dX3_init_5 : decode cX3_init 5 = .ok (.sipush 400, 3) := by decide +kernel
theorem dX3_init_8 : decode cX3_init 8 = .ok (.newarray .int, 2) := by decide +kernel
theorem dX3_init_10 : decode cX3_init 10 = .ok (.putfield 9, 3) := by decide +kernel
theorem dX3_init_13 : decode cX3_init 13 = .ok (.aload_n 0, 1) := by decide +kernel
theorem dX3_init_14 : decode cX3_init 14 = .ok (.bipush 12, 2) := by decide +kernel
theorem dX3_init_16 : decode cX3_init 16 = .ok (.newarray .int, 2) := by decide +kernel
theorem dX3_init_18 : decode cX3_init 18 = .ok (.putfield 15, 3) := by decide +kernel
theorem dX3_init_21 : decode cX3_init 21 = .ok (.aload_n 0, 1) := by decide +kernel
theorem dX3_init_22 : decode cX3_init 22 = .ok (.bipush 12, 2) := by decide +kernel
theorem dX3_init_24 : decode cX3_init 24 = .ok (.newarray .int, 2) := by decide +kernel
theorem dX3_init_26 : decode cX3_init 26 = .ok (.putfield 18, 3) := by decide +kernel
theorem dX3_init_29 : decode cX3_init 29 = .ok (.aload_n 0, 1) := by decide +kernel
theorem dX3_init_30 : decode cX3_init 30 = .ok (.bipush 12, 2) := by decide +kernel
theorem dX3_init_32 : decode cX3_init 32 = .ok (.newarray .int, 2) := by decide +kernel
theorem dX3_init_34 : decode cX3_init 34 = .ok (.putfield 21, 3) := by decide +kernel
theorem dX3_init_37 : decode cX3_init 37 = .ok (.aload_n 0, 1) := by decide +kernel
theorem dX3_init_38 : decode cX3_init 38 = .ok (.bipush 24, 2) := by decide +kernel
theorem dX3_init_40 : decode cX3_init 40 = .ok (.newarray .int, 2) := by decide +kernel
theorem dX3_init_42 : decode cX3_init 42 = .ok (.putfield 24, 3) := by decide +kernel
theorem dX3_init_45 : decode cX3_init 45 = .ok (.return_, 1) := by decide +kernel
def mkRules1 (s : zS) : zS := zRf (zNn (zRf (zNn (zRf (zNn (zRf (zNn (zRf (zNn s 17) 79 0 80) 18) 79 6 81) 19) 79 7 82) 20) 79 8 83) 21) 79 9 84
theorem cl_mkRules1 {s : zS} (hN : s.2.2.2 = 16) (hC : zcln s) : zcln (mkRules1 s) := (zcln_R (zcln_N (zcln_R (zcln_N (zcln_R (zcln_N (zcln_R (zcln_N (zcln_R (zcln_N hC (by show s.2.2.2 ≤ 17; rw [hN]; decide)) (by show 79 < 64 + 17; decide)) (by show 17 ≤ 18; decide)) (by show 79 < 64 + 18; decide)) (by show 18 ≤ 19; decide)) (by show 79 < 64 + 19; decide)) (by show 19 ≤ 20; decide)) (by show 79 < 64 + 20; decide)) (by show 20 ≤ 21; decide)) (by show 79 < 64 + 21; decide))
set_option maxRecDepth 100000 in
set_option maxHeartbeats 4000000 in
theorem c_mkRules1 {l : Launch} {g : zG} {d : Nat} {s : zS} (hN : s.2.2.2 = 16) (hC : zcln s) {K : zS → Prop} (h : K (mkRules1 s)) : zCall l g (d + 1) 16 21 M_X3_init [.ref 79] s (zKv K) := by
  refine zCall_of k_X3_init (Nat.le_of_ble_eq_true rfl) (by decide) (fun _ => ?_)
  show zAt l g (d + 1) 16 21 M_X3_init 0 [.ref 79] [] s (zKv K)
  refine z_aload_n (i := 0) dX3_init_0 rfl rfl rfl ?_
  refine z_objInit oi_X3 w_oi w_oc dX3_init_1 (Nat.le_of_ble_eq_true rfl) rfl ?_
  refine z_aload_n (i := 0) dX3_init_4 rfl rfl rfl ?_
  refine z_sipush (v := (400 : Int32)) dX3_init_5 (by decide) rfl ?_
  refine z_newa (atype := .int) (n := 16) (kd := 20) (len := 400) (q := 80) rfl (fun _ _ h9 => h9) w_aI (by decide) (by decide) (by decide) (by decide) (by decide) rfl (by decide) hN (by decide : 64 + 16 = 80) hC (by decide) dX3_init_8 rfl ?_
  refine z_putR f_X3_9 ⟨zCl3, by decide, by decide, (fun _ => by show 79 < 64 + 17; decide)⟩ rfl (by decide) (Or.inr ⟨rfl, rfl, rfl, zin 151 (by decide +kernel) (by decide +kernel)⟩) rfl rfl dX3_init_10 rfl ?_
  refine z_aload_n (i := 0) dX3_init_13 rfl rfl rfl ?_
  refine z_bipush (v := (12 : Int32)) dX3_init_14 (by decide) rfl ?_
  refine z_newa (atype := .int) (n := 17) (kd := 20) (len := 12) (q := 81) rfl (fun _ _ h9 => h9) w_aI (by decide) (by decide) (by decide) (by decide) (by decide) rfl (by decide) rfl (by decide : 64 + 17 = 81) (zcln_R (zcln_N hC (by show s.2.2.2 ≤ 17; rw [hN]; decide)) (by show 79 < 64 + 17; decide)) (by decide) dX3_init_16 rfl ?_
  refine z_putR f_X3_15 ⟨zCl3, by decide, by decide, (fun _ => by show 79 < 64 + 18; decide)⟩ rfl (by decide) (Or.inr ⟨rfl, rfl, rfl, zin 164 (by decide +kernel) (by decide +kernel)⟩) rfl rfl dX3_init_18 rfl ?_
  refine z_aload_n (i := 0) dX3_init_21 rfl rfl rfl ?_
  refine z_bipush (v := (12 : Int32)) dX3_init_22 (by decide) rfl ?_
  refine z_newa (atype := .int) (n := 18) (kd := 20) (len := 12) (q := 82) rfl (fun _ _ h9 => h9) w_aI (by decide) (by decide) (by decide) (by decide) (by decide) rfl (by decide) rfl (by decide : 64 + 18 = 82) (zcln_R (zcln_N (zcln_R (zcln_N hC (by show s.2.2.2 ≤ 17; rw [hN]; decide)) (by show 79 < 64 + 17; decide)) (by show 17 ≤ 18; decide)) (by show 79 < 64 + 18; decide)) (by decide) dX3_init_24 rfl ?_
  refine z_putR f_X3_18 ⟨zCl3, by decide, by decide, (fun _ => by show 79 < 64 + 19; decide)⟩ rfl (by decide) (Or.inr ⟨rfl, rfl, rfl, zin 166 (by decide +kernel) (by decide +kernel)⟩) rfl rfl dX3_init_26 rfl ?_
  refine z_aload_n (i := 0) dX3_init_29 rfl rfl rfl ?_
  refine z_bipush (v := (12 : Int32)) dX3_init_30 (by decide) rfl ?_
  refine z_newa (atype := .int) (n := 19) (kd := 20) (len := 12) (q := 83) rfl (fun _ _ h9 => h9) w_aI (by decide) (by decide) (by decide) (by decide) (by decide) rfl (by decide) rfl (by decide : 64 + 19 = 83) (zcln_R (zcln_N (zcln_R (zcln_N (zcln_R (zcln_N hC (by show s.2.2.2 ≤ 17; rw [hN]; decide)) (by show 79 < 64 + 17; decide)) (by show 17 ≤ 18; decide)) (by show 79 < 64 + 18; decide)) (by show 18 ≤ 19; decide)) (by show 79 < 64 + 19; decide)) (by decide) dX3_init_32 rfl ?_
  refine z_putR f_X3_21 ⟨zCl3, by decide, by decide, (fun _ => by show 79 < 64 + 20; decide)⟩ rfl (by decide) (Or.inr ⟨rfl, rfl, rfl, zin 167 (by decide +kernel) (by decide +kernel)⟩) rfl rfl dX3_init_34 rfl ?_
  refine z_aload_n (i := 0) dX3_init_37 rfl rfl rfl ?_
  refine z_bipush (v := (24 : Int32)) dX3_init_38 (by decide) rfl ?_
  refine z_newa (atype := .int) (n := 20) (kd := 20) (len := 24) (q := 84) rfl (fun _ _ h9 => h9) w_aI (by decide) (by decide) (by decide) (by decide) (by decide) rfl (by decide) rfl (by decide : 64 + 20 = 84) (zcln_R (zcln_N (zcln_R (zcln_N (zcln_R (zcln_N (zcln_R (zcln_N hC (by show s.2.2.2 ≤ 17; rw [hN]; decide)) (by show 79 < 64 + 17; decide)) (by show 17 ≤ 18; decide)) (by show 79 < 64 + 18; decide)) (by show 18 ≤ 19; decide)) (by show 79 < 64 + 19; decide)) (by show 19 ≤ 20; decide)) (by show 79 < 64 + 20; decide)) (by decide) dX3_init_40 rfl ?_
  refine z_putR f_X3_24 ⟨zCl3, by decide, by decide, (fun _ => by show 79 < 64 + 21; decide)⟩ rfl (by decide) (Or.inr ⟨rfl, rfl, rfl, zin 168 (by decide +kernel) (by decide +kernel)⟩) rfl rfl dX3_init_42 rfl ?_
  exact z_ret none (Or.inl ⟨rfl, rfl, dX3_init_45⟩) (fun _ _ => rfl) ⟨rfl, h⟩
def mkRules2 (s : zS) : zS := zRf (zNn (zRf (zNn (zRf (zNn (zRf (zNn (zRf (zNn s 23) 85 0 86) 24) 85 6 87) 25) 85 7 88) 26) 85 8 89) 27) 85 9 90
theorem cl_mkRules2 {s : zS} (hN : s.2.2.2 = 22) (hC : zcln s) : zcln (mkRules2 s) := (zcln_R (zcln_N (zcln_R (zcln_N (zcln_R (zcln_N (zcln_R (zcln_N (zcln_R (zcln_N hC (by show s.2.2.2 ≤ 23; rw [hN]; decide)) (by show 85 < 64 + 23; decide)) (by show 23 ≤ 24; decide)) (by show 85 < 64 + 24; decide)) (by show 24 ≤ 25; decide)) (by show 85 < 64 + 25; decide)) (by show 25 ≤ 26; decide)) (by show 85 < 64 + 26; decide)) (by show 26 ≤ 27; decide)) (by show 85 < 64 + 27; decide))
set_option maxRecDepth 100000 in
set_option maxHeartbeats 4000000 in
theorem c_mkRules2 {l : Launch} {g : zG} {d : Nat} {s : zS} (hN : s.2.2.2 = 22) (hC : zcln s) {K : zS → Prop} (h : K (mkRules2 s)) : zCall l g (d + 1) 22 27 M_X3_init [.ref 85] s (zKv K) := by
  refine zCall_of k_X3_init (Nat.le_of_ble_eq_true rfl) (by decide) (fun _ => ?_)
  show zAt l g (d + 1) 22 27 M_X3_init 0 [.ref 85] [] s (zKv K)
  refine z_aload_n (i := 0) dX3_init_0 rfl rfl rfl ?_
  refine z_objInit oi_X3 w_oi w_oc dX3_init_1 (Nat.le_of_ble_eq_true rfl) rfl ?_
  refine z_aload_n (i := 0) dX3_init_4 rfl rfl rfl ?_
  refine z_sipush (v := (400 : Int32)) dX3_init_5 (by decide) rfl ?_
  refine z_newa (atype := .int) (n := 22) (kd := 20) (len := 400) (q := 86) rfl (fun _ _ h9 => h9) w_aI (by decide) (by decide) (by decide) (by decide) (by decide) rfl (by decide) hN (by decide : 64 + 22 = 86) hC (by decide) dX3_init_8 rfl ?_
  refine z_putR f_X3_9 ⟨zCl3, by decide, by decide, (fun _ => by show 85 < 64 + 23; decide)⟩ rfl (by decide) (Or.inr ⟨rfl, rfl, rfl, zin 151 (by decide +kernel) (by decide +kernel)⟩) rfl rfl dX3_init_10 rfl ?_
  refine z_aload_n (i := 0) dX3_init_13 rfl rfl rfl ?_
  refine z_bipush (v := (12 : Int32)) dX3_init_14 (by decide) rfl ?_
  refine z_newa (atype := .int) (n := 23) (kd := 20) (len := 12) (q := 87) rfl (fun _ _ h9 => h9) w_aI (by decide) (by decide) (by decide) (by decide) (by decide) rfl (by decide) rfl (by decide : 64 + 23 = 87) (zcln_R (zcln_N hC (by show s.2.2.2 ≤ 23; rw [hN]; decide)) (by show 85 < 64 + 23; decide)) (by decide) dX3_init_16 rfl ?_
  refine z_putR f_X3_15 ⟨zCl3, by decide, by decide, (fun _ => by show 85 < 64 + 24; decide)⟩ rfl (by decide) (Or.inr ⟨rfl, rfl, rfl, zin 164 (by decide +kernel) (by decide +kernel)⟩) rfl rfl dX3_init_18 rfl ?_
  refine z_aload_n (i := 0) dX3_init_21 rfl rfl rfl ?_
  refine z_bipush (v := (12 : Int32)) dX3_init_22 (by decide) rfl ?_
  refine z_newa (atype := .int) (n := 24) (kd := 20) (len := 12) (q := 88) rfl (fun _ _ h9 => h9) w_aI (by decide) (by decide) (by decide) (by decide) (by decide) rfl (by decide) rfl (by decide : 64 + 24 = 88) (zcln_R (zcln_N (zcln_R (zcln_N hC (by show s.2.2.2 ≤ 23; rw [hN]; decide)) (by show 85 < 64 + 23; decide)) (by show 23 ≤ 24; decide)) (by show 85 < 64 + 24; decide)) (by decide) dX3_init_24 rfl ?_
  refine z_putR f_X3_18 ⟨zCl3, by decide, by decide, (fun _ => by show 85 < 64 + 25; decide)⟩ rfl (by decide) (Or.inr ⟨rfl, rfl, rfl, zin 166 (by decide +kernel) (by decide +kernel)⟩) rfl rfl dX3_init_26 rfl ?_
  refine z_aload_n (i := 0) dX3_init_29 rfl rfl rfl ?_
  refine z_bipush (v := (12 : Int32)) dX3_init_30 (by decide) rfl ?_
  refine z_newa (atype := .int) (n := 25) (kd := 20) (len := 12) (q := 89) rfl (fun _ _ h9 => h9) w_aI (by decide) (by decide) (by decide) (by decide) (by decide) rfl (by decide) rfl (by decide : 64 + 25 = 89) (zcln_R (zcln_N (zcln_R (zcln_N (zcln_R (zcln_N hC (by show s.2.2.2 ≤ 23; rw [hN]; decide)) (by show 85 < 64 + 23; decide)) (by show 23 ≤ 24; decide)) (by show 85 < 64 + 24; decide)) (by show 24 ≤ 25; decide)) (by show 85 < 64 + 25; decide)) (by decide) dX3_init_32 rfl ?_
  refine z_putR f_X3_21 ⟨zCl3, by decide, by decide, (fun _ => by show 85 < 64 + 26; decide)⟩ rfl (by decide) (Or.inr ⟨rfl, rfl, rfl, zin 167 (by decide +kernel) (by decide +kernel)⟩) rfl rfl dX3_init_34 rfl ?_
  refine z_aload_n (i := 0) dX3_init_37 rfl rfl rfl ?_
  refine z_bipush (v := (24 : Int32)) dX3_init_38 (by decide) rfl ?_
  refine z_newa (atype := .int) (n := 26) (kd := 20) (len := 24) (q := 90) rfl (fun _ _ h9 => h9) w_aI (by decide) (by decide) (by decide) (by decide) (by decide) rfl (by decide) rfl (by decide : 64 + 26 = 90) (zcln_R (zcln_N (zcln_R (zcln_N (zcln_R (zcln_N (zcln_R (zcln_N hC (by show s.2.2.2 ≤ 23; rw [hN]; decide)) (by show 85 < 64 + 23; decide)) (by show 23 ≤ 24; decide)) (by show 85 < 64 + 24; decide)) (by show 24 ≤ 25; decide)) (by show 85 < 64 + 25; decide)) (by show 25 ≤ 26; decide)) (by show 85 < 64 + 26; decide)) (by decide) dX3_init_40 rfl ?_
  refine z_putR f_X3_24 ⟨zCl3, by decide, by decide, (fun _ => by show 85 < 64 + 27; decide)⟩ rfl (by decide) (Or.inr ⟨rfl, rfl, rfl, zin 168 (by decide +kernel) (by decide +kernel)⟩) rfl rfl dX3_init_42 rfl ?_
  exact z_ret none (Or.inl ⟨rfl, rfl, dX3_init_45⟩) (fun _ _ => rfl) ⟨rfl, h⟩
theorem dX6_init_0 : decode cX6_init 0 = .ok (.aload_n 0, 1) := by decide +kernel
theorem dX6_init_1 : decode cX6_init 1 = .ok (.invokespecial 3, 3) := by decide +kernel
theorem dX6_init_4 : decode cX6_init 4 = .ok (.aload_n 0, 1) := by decide +kernel
theorem dX6_init_5 : decode cX6_init 5 = .ok (.iconst 1, 1) := by decide +kernel
theorem dX6_init_6 : decode cX6_init 6 = .ok (.putfield 9, 3) := by decide +kernel
theorem dX6_init_9 : decode cX6_init 9 = .ok (.aload_n 0, 1) := by decide +kernel
theorem dX6_init_10 : decode cX6_init 10 = .ok (.iconst 1, 1) := by decide +kernel
theorem dX6_init_11 : decode cX6_init 11 = .ok (.putfield 15, 3) := by decide +kernel
theorem dX6_init_14 : decode cX6_init 14 = .ok (.return_, 1) := by decide +kernel
theorem dX5_init_0 : decode cX5_init 0 = .ok (.aload_n 0, 1) := by decide +kernel
theorem dX5_init_1 : decode cX5_init 1 = .ok (.invokespecial 3, 3) := by decide +kernel
theorem dX5_init_4 : decode cX5_init 4 = .ok (.return_, 1) := by decide +kernel
def mkThing (o : Nat) (s : zS) : zS := zI (zI s o 8 1) o 10 1
set_option maxRecDepth 100000 in
theorem c_Thing {l : Launch} {g : zG} {d n o : Nat} {s : zS} (hN : s.2.2.2 = n) (ho : zk o = 7 ∧ 64 ≤ o ∧ o < 64 + n) {K : zS → Prop} (h : K (mkThing o s)) : zCall l g (d + 1) n n M_X6_init [.ref o] s (zKv K) := by
  have hi : ∀ s1 : zS, s1.2.2.2 = n → zIs s1 n 6 o := fun s1 h1 => ⟨zCl6, ho.1, ho.2.1, fun _ => by rw [h1]; exact ho.2.2⟩
  refine zCall_of k_X6_init (Nat.le_of_ble_eq_true rfl) (Nat.le_refl _) (fun _ => ?_)
  show zAt l g (d + 1) n n M_X6_init 0 [.ref o] [] s (zKv K)
  refine z_aload_n (i := 0) dX6_init_0 rfl rfl rfl ?_
  refine z_objInit oi_X6 w_oi w_oc dX6_init_1 (Nat.le_of_ble_eq_true rfl) rfl ?_
  refine z_aload_n (i := 0) dX6_init_4 rfl rfl rfl ?_
  refine z_iconst (v := 1) dX6_init_5 (by decide) rfl ?_
  refine z_putI f_X6_9 (hi s hN) rfl (Or.inl rfl) rfl rfl dX6_init_6 rfl ?_
  refine z_aload_n (i := 0) dX6_init_9 rfl rfl rfl ?_
  refine z_iconst (v := 1) dX6_init_10 (by decide) rfl ?_
  refine z_putI f_X6_15 (hi _ hN) rfl (Or.inl rfl) rfl rfl dX6_init_11 rfl ?_
  exact z_ret none (Or.inl ⟨rfl, rfl, dX6_init_14⟩) (fun _ _ => hN) ⟨rfl, h⟩
theorem c_Telling {l : Launch} {g : zG} {d n o : Nat} {s : zS} (hN : s.2.2.2 = n) {K : zS → Prop} (h : K s) : zCall l g (d + 1) n n M_X5_init [.ref o] s (zKv K) := by
  refine zCall_of k_X5_init (Nat.le_of_ble_eq_true rfl) (Nat.le_refl _) (fun _ => ?_)
  show zAt l g (d + 1) n n M_X5_init 0 [.ref o] [] s (zKv K)
  refine z_aload_n (i := 0) dX5_init_0 rfl rfl rfl ?_
  refine z_objInit oi_X5 w_oi w_oc dX5_init_1 (Nat.le_of_ble_eq_true rfl) rfl ?_
  exact z_ret none (Or.inl ⟨rfl, rfl, dX5_init_4⟩) (fun _ _ => hN) ⟨rfl, h⟩
theorem dX7_init_0 : decode cX7_init 0 = .ok (.aload_n 0, 1) := by decide +kernel
theorem dX7_init_1 : decode cX7_init 1 = .ok (.invokespecial 3, 3) := by decide +kernel
theorem dX7_init_4 : decode cX7_init 4 = .ok (.aload_n 0, 1) := by decide +kernel
theorem dX7_init_5 : decode cX7_init 5 = .ok (.new 9, 3) := by decide +kernel
theorem dX7_init_8 : decode cX7_init 8 = .ok (.dup, 1) := by decide +kernel
theorem dX7_init_9 : decode cX7_init 9 = .ok (.invokespecial 11, 3) := by decide +kernel
theorem dX7_init_12 : decode cX7_init 12 = .ok (.putfield 12, 3) := by decide +kernel
theorem dX7_init_15 : decode cX7_init 15 = .ok (.aload_n 0, 1) := by decide +kernel
theorem dX7_init_16 : decode cX7_init 16 = .ok (.new 16, 3) := by decide +kernel
theorem dX7_init_19 : decode cX7_init 19 = .ok (.dup, 1) := by decide +kernel
theorem dX7_init_20 : decode cX7_init 20 = .ok (.aload_n 0, 1) := by decide +kernel
theorem dX7_init_21 : decode cX7_init 21 = .ok (.getfield 12, 3) := by decide +kernel
theorem dX7_init_24 : decode cX7_init 24 = .ok (.invokespecial 18, 3) := by decide +kernel
theorem dX7_init_27 : decode cX7_init 27 = .ok (.putfield 21, 3) := by decide +kernel
theorem dX7_init_30 : decode cX7_init 30 = .ok (.aload_n 0, 1) := by decide +kernel
theorem dX7_init_31 : decode cX7_init 31 = .ok (.bipush 20, 2) := by decide +kernel
theorem dX7_init_33 : decode cX7_init 33 = .ok (.newarray .int, 2) := by decide +kernel
theorem dX7_init_35 : decode cX7_init 35 = .ok (.putfield 25, 3) := by decide +kernel
theorem dX7_init_38 : decode cX7_init 38 = .ok (.aload_n 0, 1) := by decide +kernel
theorem dX7_init_39 : decode cX7_init 39 = .ok (.bipush 12, 2) := by decide +kernel
theorem dX7_init_41 : decode cX7_init 41 = .ok (.anewarray 29, 3) := by decide +kernel
theorem dX7_init_44 : decode cX7_init 44 = .ok (.putfield 31, 3) := by decide +kernel
theorem dX7_init_47 : decode cX7_init 47 = .ok (.aload_n 0, 1) := by decide +kernel
theorem dX7_init_48 : decode cX7_init 48 = .ok (.bipush 60, 2) := by decide +kernel
theorem dX7_init_50 : decode cX7_init 50 = .ok (.anewarray 35, 3) := by decide +kernel
theorem dX7_init_53 : decode cX7_init 53 = .ok (.putfield 37, 3) := by decide +kernel
theorem dX7_init_56 : decode cX7_init 56 = .ok (.aload_n 0, 1) := by decide +kernel
theorem dX7_init_57 : decode cX7_init 57 = .ok (.bipush 8, 2) := by decide +kernel
theorem dX7_init_59 : decode cX7_init 59 = .ok (.putfield 41, 3) := by decide +kernel
theorem dX7_init_62 : decode cX7_init 62 = .ok (.aload_n 0, 1) := by decide +kernel
theorem dX7_init_63 : decode cX7_init 63 = .ok (.bipush 20, 2) := by decide +kernel
theorem dX7_init_65 : decode cX7_init 65 = .ok (.putfield 45, 3) := by decide +kernel
theorem dX7_init_68 : decode cX7_init 68 = .ok (.aload_n 0, 1) := by decide +kernel
theorem dX7_init_69 : decode cX7_init 69 = .ok (.iconst 1, 1) := by decide +kernel
theorem dX7_init_70 : decode cX7_init 70 = .ok (.putfield 48, 3) := by decide +kernel
theorem dX7_init_73 : decode cX7_init 73 = .ok (.aload_n 0, 1) := by decide +kernel
theorem dX7_init_74 : decode cX7_init 74 = .ok (.bipush 12, 2) := by decide +kernel
theorem dX7_init_76 : decode cX7_init 76 = .ok (.newarray .int, 2) := by decide +kernel
theorem dX7_init_78 : decode cX7_init 78 = .ok (.putfield 51, 3) := by decide +kernel
theorem dX7_init_81 : decode cX7_init 81 = .ok (.aload_n 0, 1) := by decide +kernel
theorem dX7_init_82 : decode cX7_init 82 = .ok (.bipush 60, 2) := by decide +kernel
theorem dX7_init_84 : decode cX7_init 84 = .ok (.newarray .int, 2) := by decide +kernel
theorem dX7_init_86 : decode cX7_init 86 = .ok (.putfield 54, 3) := by decide +kernel
theorem dX7_init_89 : decode cX7_init 89 = .ok (.aload_n 0, 1) := by decide +kernel
theorem dX7_init_90 : decode cX7_init 90 = .ok (.new 57, 3) := by decide +kernel
theorem dX7_init_93 : decode cX7_init 93 = .ok (.dup, 1) := by decide +kernel
theorem dX7_init_94 : decode cX7_init 94 = .ok (.invokespecial 59, 3) := by decide +kernel
theorem dX7_init_97 : decode cX7_init 97 = .ok (.putfield 60, 3) := by decide +kernel
theorem dX7_init_100 : decode cX7_init 100 = .ok (.aload_n 0, 1) := by decide +kernel
theorem dX7_init_101 : decode cX7_init 101 = .ok (.new 64, 3) := by decide +kernel
theorem dX7_init_104 : decode cX7_init 104 = .ok (.dup, 1) := by decide +kernel
theorem dX7_init_105 : decode cX7_init 105 = .ok (.invokespecial 66, 3) := by decide +kernel
theorem dX7_init_108 : decode cX7_init 108 = .ok (.putfield 67, 3) := by decide +kernel
theorem dX7_init_111 : decode cX7_init 111 = .ok (.aload_n 0, 1) := by decide +kernel
theorem dX7_init_112 : decode cX7_init 112 = .ok (.new 71, 3) := by decide +kernel
theorem dX7_init_115 : decode cX7_init 115 = .ok (.dup, 1) := by decide +kernel
theorem dX7_init_116 : decode cX7_init 116 = .ok (.invokespecial 73, 3) := by decide +kernel
theorem dX7_init_119 : decode cX7_init 119 = .ok (.putfield 74, 3) := by decide +kernel
theorem dX7_init_122 : decode cX7_init 122 = .ok (.aload_n 0, 1) := by decide +kernel
theorem dX7_init_123 : decode cX7_init 123 = .ok (.new 71, 3) := by decide +kernel
theorem dX7_init_126 : decode cX7_init 126 = .ok (.dup, 1) := by decide +kernel
theorem dX7_init_127 : decode cX7_init 127 = .ok (.invokespecial 73, 3) := by decide +kernel
theorem dX7_init_130 : decode cX7_init 130 = .ok (.putfield 78, 3) := by decide +kernel
theorem dX7_init_133 : decode cX7_init 133 = .ok (.aload_n 0, 1) := by decide +kernel
theorem dX7_init_134 : decode cX7_init 134 = .ok (.bipush 7, 2) := by decide +kernel
theorem dX7_init_136 : decode cX7_init 136 = .ok (.newarray .int, 2) := by decide +kernel
theorem dX7_init_138 : decode cX7_init 138 = .ok (.putfield 81, 3) := by decide +kernel
theorem dX7_init_141 : decode cX7_init 141 = .ok (.iconst 0, 1) := by decide +kernel
theorem dX7_init_142 : decode cX7_init 142 = .ok (.istore_n 1, 1) := by decide +kernel
theorem dX7_init_143 : decode cX7_init 143 = .ok (.iload_n 1, 1) := by decide +kernel
theorem dX7_init_144 : decode cX7_init 144 = .ok (.bipush 12, 2) := by decide +kernel
theorem dX7_init_146 : decode cX7_init 146 = .ok (.if_icmp .ge 22, 3) := by decide +kernel
theorem dX7_init_149 : decode cX7_init 149 = .ok (.aload_n 0, 1) := by decide +kernel
theorem dX7_init_150 : decode cX7_init 150 = .ok (.getfield 31, 3) := by decide +kernel
theorem dX7_init_153 : decode cX7_init 153 = .ok (.iload_n 1, 1) := by decide +kernel
theorem dX7_init_154 : decode cX7_init 154 = .ok (.new 29, 3) := by decide +kernel
theorem dX7_init_157 : decode cX7_init 157 = .ok (.dup, 1) := by decide +kernel
theorem dX7_init_158 : decode cX7_init 158 = .ok (.invokespecial 84, 3) := by decide +kernel
theorem dX7_init_161 : decode cX7_init 161 = .ok (.aastore, 1) := by decide +kernel
theorem dX7_init_162 : decode cX7_init 162 = .ok (.iinc 1 1, 3) := by decide +kernel
theorem dX7_init_165 : decode cX7_init 165 = .ok (.goto (-22), 3) := by decide +kernel
theorem dX7_init_168 : decode cX7_init 168 = .ok (.iconst 0, 1) := by decide +kernel
theorem dX7_init_169 : decode cX7_init 169 = .ok (.istore_n 1, 1) := by decide +kernel
theorem dX7_init_170 : decode cX7_init 170 = .ok (.iload_n 1, 1) := by decide +kernel
theorem dX7_init_171 : decode cX7_init 171 = .ok (.bipush 60, 2) := by decide +kernel
theorem dX7_init_173 : decode cX7_init 173 = .ok (.if_icmp .ge 22, 3) := by decide +kernel
theorem dX7_init_176 : decode cX7_init 176 = .ok (.aload_n 0, 1) := by decide +kernel
theorem dX7_init_177 : decode cX7_init 177 = .ok (.getfield 37, 3) := by decide +kernel
theorem dX7_init_180 : decode cX7_init 180 = .ok (.iload_n 1, 1) := by decide +kernel
theorem dX7_init_181 : decode cX7_init 181 = .ok (.new 35, 3) := by decide +kernel
theorem dX7_init_184 : decode cX7_init 184 = .ok (.dup, 1) := by decide +kernel
theorem dX7_init_185 : decode cX7_init 185 = .ok (.invokespecial 85, 3) := by decide +kernel
theorem dX7_init_188 : decode cX7_init 188 = .ok (.aastore, 1) := by decide +kernel
theorem dX7_init_189 : decode cX7_init 189 = .ok (.iinc 1 1, 3) := by decide +kernel
theorem dX7_init_192 : decode cX7_init 192 = .ok (.goto (-22), 3) := by decide +kernel
theorem dX7_init_195 : decode cX7_init 195 = .ok (.return_, 1) := by decide +kernel
def mkX0 (s : zS) : zS := zRf (zNn (zRf (mkRules2 (zNn (zRf (mkRules1 (zNn (zRf (mkReader (zNn (zRf (mkCross (zNn (zRf (zNn (zRf (zNn (zI (zI (zI (zRf (zNn (zRf (zNn (zRf (zNn (zRf (mkSight (zNn (zRf (mkLand (zNn s 2)) 64 0 65) 5)) 64 1 68) 6) 64 2 69) 7) 64 4 70) 8) 64 6 71) 64 8 (8 : Int32)) 64 9 (20 : Int32)) 64 10 (1 : Int32)) 9) 64 11 72) 10) 64 12 73) 11)) 64 13 74) 12)) 64 14 75) 16)) 64 15 79) 22)) 64 16 85) 28) 64 17 91
theorem cl_mkX0 {s : zS} (hN : s.2.2.2 = 1) (hC : zcln s) : zcln (mkX0 s) := (zcln_R (zcln_N (zcln_R (cl_mkRules2 rfl (zcln_N (zcln_R (cl_mkRules1 rfl (zcln_N (zcln_R (cl_mkReader rfl (zcln_N (zcln_R (cl_mkCross rfl (zcln_N (zcln_R (zcln_N (zcln_R (zcln_N (zcln_I (zcln_I (zcln_I (zcln_R (zcln_N (zcln_R (zcln_N (zcln_R (zcln_N (zcln_R (cl_mkSight rfl (zcln_N (zcln_R (cl_mkLand rfl (zcln_N hC (by show s.2.2.2 ≤ 2; rw [hN]; decide))) (by show 64 < 64 + 4; decide)) (by show 4 ≤ 5; decide))) (by show 64 < 64 + 5; decide)) (by show 5 ≤ 6; decide)) (by show 64 < 64 + 6; decide)) (by show 6 ≤ 7; decide)) (by show 64 < 64 + 7; decide)) (by show 7 ≤ 8; decide)) (by show 64 < 64 + 8; decide)) (by show 64 < 64 + 8; decide)) (by show 64 < 64 + 8; decide)) (by show 64 < 64 + 8; decide)) (by show 8 ≤ 9; decide)) (by show 64 < 64 + 9; decide)) (by show 9 ≤ 10; decide)) (by show 64 < 64 + 10; decide)) (by show 10 ≤ 11; decide))) (by show 64 < 64 + 11; decide)) (by show 11 ≤ 12; decide))) (by show 64 < 64 + 15; decide)) (by show 15 ≤ 16; decide))) (by show 64 < 64 + 21; decide)) (by show 21 ≤ 22; decide))) (by show 64 < 64 + 27; decide)) (by show 27 ≤ 28; decide)) (by show 64 < 64 + 28; decide))
set_option maxRecDepth 100000 in
set_option maxHeartbeats 8000000 in
theorem c_mkX0 {l : Launch} {g : zG} {d : Nat} {s : zS} (hN : s.2.2.2 = 1) (hC : zcln s) {K : Option Value → zS → Prop} (h : zAt l g (d + 3) 1 100 M_X7_init 143 [.ref 64, .int 0] [] (mkX0 s) K) : zAt l g (d + 3) 1 100 M_X7_init 0 [.ref 64, zJ] [] s K := by
  refine z_aload_n (i := 0) dX7_init_0 rfl rfl rfl ?_
  refine z_objInit oi_X7 w_oi w_oc dX7_init_1 (Nat.le_of_ble_eq_true rfl) rfl ?_
  refine z_aload_n (i := 0) dX7_init_4 rfl rfl rfl ?_
  refine z_new (n := 1) (q := 65) (c := 1) zCl1 cl_X7_9 in_1 ii_1 hN (by decide : 64 + 1 = 65) (by decide) hC (by decide) dX7_init_5 rfl ?_
  refine z_dup dX7_init_8 rfl rfl ?_
  refine z_callI (y0 := 2) (y1 := 4) (as := []) k_X1_init rfl m_X7_11 rfl (c_mkLand rfl (zcln_N hC (by show s.2.2.2 ≤ 2; rw [hN]; decide)) (K := fun s1 => s1 = mkLand (zNn s 2)) rfl) rfl (Nat.le_of_ble_eq_true rfl) dX7_init_9 (fun _ _ => ⟨rfl, by decide, by decide⟩) rfl ?_
  rintro v _ ⟨rfl, rfl⟩
  show zAt l g _ 1 100 M_X7_init 12 [.ref 64, zJ] [.ref 65, .ref 64] _ _
  refine z_putR f_X7_12 ⟨zCl7, by decide, by decide, (fun _ => by show 64 < 64 + 4; decide)⟩ rfl (by decide) (Or.inr ⟨rfl, rfl, rfl, zin 314 (by decide +kernel) (by decide +kernel)⟩) rfl rfl dX7_init_12 rfl ?_
  refine z_aload_n (i := 0) dX7_init_15 rfl rfl rfl ?_
  refine z_new (n := 4) (q := 68) (c := 4) zCl4 cl_X7_16 in_4 ii_4 rfl (by decide : 64 + 4 = 68) (by decide) (zcln_R (cl_mkLand rfl (zcln_N hC (by show s.2.2.2 ≤ 2; rw [hN]; decide))) (by show 64 < 64 + 4; decide)) (by decide) dX7_init_16 rfl ?_
  refine z_dup dX7_init_19 rfl rfl ?_
  refine z_aload_n (i := 0) dX7_init_20 rfl rfl rfl ?_
  refine z_getR (q := 65) f_X7_12 ⟨zCl7, by decide, by decide, (fun _ => by show 64 < 64 + 5; decide)⟩ rfl (by rfl) (by decide) dX7_init_21 rfl ?_
  refine z_callI (y0 := 5) (y1 := 5) (as := [.ref 65]) k_X4_init rfl m_X7_18 rfl (c_mkSight rfl (zcln_N (zcln_R (cl_mkLand rfl (zcln_N hC (by show s.2.2.2 ≤ 2; rw [hN]; decide))) (by show 64 < 64 + 4; decide)) (by show 4 ≤ 5; decide)) (K := fun s1 => s1 = mkSight (zNn (zRf (mkLand (zNn s 2)) 64 0 65) 5)) rfl) rfl (Nat.le_of_ble_eq_true rfl) dX7_init_24 (fun _ _ => ⟨rfl, by decide, by decide⟩) rfl ?_
  rintro v _ ⟨rfl, rfl⟩
  show zAt l g _ 1 100 M_X7_init 27 [.ref 64, zJ] [.ref 68, .ref 64] _ _
  refine z_putR f_X7_21 ⟨zCl7, by decide, by decide, (fun _ => by show 64 < 64 + 5; decide)⟩ rfl (by decide) (Or.inr ⟨rfl, rfl, rfl, zin 315 (by decide +kernel) (by decide +kernel)⟩) rfl rfl dX7_init_27 rfl ?_
  refine z_aload_n (i := 0) dX7_init_30 rfl rfl rfl ?_
  refine z_bipush (v := (20 : Int32)) dX7_init_31 (by decide) rfl ?_
  refine z_newa (atype := .int) (n := 5) (kd := 20) (len := 20) (q := 69) rfl (fun _ _ h9 => h9) w_aI (by decide) (by decide) (by decide) (by decide) (by decide) rfl (by decide) rfl (by decide : 64 + 5 = 69) (zcln_R (cl_mkSight rfl (zcln_N (zcln_R (cl_mkLand rfl (zcln_N hC (by show s.2.2.2 ≤ 2; rw [hN]; decide))) (by show 64 < 64 + 4; decide)) (by show 4 ≤ 5; decide))) (by show 64 < 64 + 5; decide)) (by decide) dX7_init_33 rfl ?_
  refine z_putR f_X7_25 ⟨zCl7, by decide, by decide, (fun _ => by show 64 < 64 + 6; decide)⟩ rfl (by decide) (Or.inr ⟨rfl, rfl, rfl, zin 316 (by decide +kernel) (by decide +kernel)⟩) rfl rfl dX7_init_35 rfl ?_
  refine z_aload_n (i := 0) dX7_init_38 rfl rfl rfl ?_
  refine z_bipush (v := (12 : Int32)) dX7_init_39 (by decide) rfl ?_
  refine z_anew (n := 6) (kd := 23) (len := 12) (q := 70) rfl (fun _ h => h.1) cl_X7_29 (by decide) (by decide) (by decide) (by decide) (by decide) (by decide) rfl (by decide : 64 + 6 = 70) (zcln_R (zcln_N (zcln_R (cl_mkSight rfl (zcln_N (zcln_R (cl_mkLand rfl (zcln_N hC (by show s.2.2.2 ≤ 2; rw [hN]; decide))) (by show 64 < 64 + 4; decide)) (by show 4 ≤ 5; decide))) (by show 64 < 64 + 5; decide)) (by show 5 ≤ 6; decide)) (by show 64 < 64 + 6; decide)) (by decide) dX7_init_41 rfl ?_
  refine z_putR f_X7_31 ⟨zCl7, by decide, by decide, (fun _ => by show 64 < 64 + 7; decide)⟩ rfl (by decide) (Or.inr ⟨rfl, rfl, rfl, zin 318 (by decide +kernel) (by decide +kernel)⟩) rfl rfl dX7_init_44 rfl ?_
  refine z_aload_n (i := 0) dX7_init_47 rfl rfl rfl ?_
  refine z_bipush (v := (60 : Int32)) dX7_init_48 (by decide) rfl ?_
  refine z_anew (n := 7) (kd := 24) (len := 60) (q := 71) rfl (fun _ h => h.2.1) cl_X7_35 (by decide) (by decide) (by decide) (by decide) (by decide) (by decide) rfl (by decide : 64 + 7 = 71) (zcln_R (zcln_N (zcln_R (zcln_N (zcln_R (cl_mkSight rfl (zcln_N (zcln_R (cl_mkLand rfl (zcln_N hC (by show s.2.2.2 ≤ 2; rw [hN]; decide))) (by show 64 < 64 + 4; decide)) (by show 4 ≤ 5; decide))) (by show 64 < 64 + 5; decide)) (by show 5 ≤ 6; decide)) (by show 64 < 64 + 6; decide)) (by show 6 ≤ 7; decide)) (by show 64 < 64 + 7; decide)) (by decide) dX7_init_50 rfl ?_
  refine z_putR f_X7_37 ⟨zCl7, by decide, by decide, (fun _ => by show 64 < 64 + 8; decide)⟩ rfl (by decide) (Or.inr ⟨rfl, rfl, rfl, zin 320 (by decide +kernel) (by decide +kernel)⟩) rfl rfl dX7_init_53 rfl ?_
  refine z_aload_n (i := 0) dX7_init_56 rfl rfl rfl ?_
  refine z_bipush (v := (8 : Int32)) dX7_init_57 (by decide) rfl ?_
  refine z_putI f_X7_41 ⟨zCl7, by decide, by decide, (fun _ => by show 64 < 64 + 8; decide)⟩ rfl (Or.inl rfl) rfl rfl dX7_init_59 rfl ?_
  refine z_aload_n (i := 0) dX7_init_62 rfl rfl rfl ?_
  refine z_bipush (v := (20 : Int32)) dX7_init_63 (by decide) rfl ?_
  refine z_putI f_X7_45 ⟨zCl7, by decide, by decide, (fun _ => by show 64 < 64 + 8; decide)⟩ rfl (Or.inl rfl) rfl rfl dX7_init_65 rfl ?_
  refine z_aload_n (i := 0) dX7_init_68 rfl rfl rfl ?_
  refine z_iconst (v := (1 : Int32)) dX7_init_69 (by decide) rfl ?_
  refine z_putI f_X7_48 ⟨zCl7, by decide, by decide, (fun _ => by show 64 < 64 + 8; decide)⟩ rfl (Or.inl rfl) rfl rfl dX7_init_70 rfl ?_
  refine z_aload_n (i := 0) dX7_init_73 rfl rfl rfl ?_
  refine z_bipush (v := (12 : Int32)) dX7_init_74 (by decide) rfl ?_
  refine z_newa (atype := .int) (n := 8) (kd := 20) (len := 12) (q := 72) rfl (fun _ _ h9 => h9) w_aI (by decide) (by decide) (by decide) (by decide) (by decide) rfl (by decide) rfl (by decide : 64 + 8 = 72) (zcln_I (zcln_I (zcln_I (zcln_R (zcln_N (zcln_R (zcln_N (zcln_R (zcln_N (zcln_R (cl_mkSight rfl (zcln_N (zcln_R (cl_mkLand rfl (zcln_N hC (by show s.2.2.2 ≤ 2; rw [hN]; decide))) (by show 64 < 64 + 4; decide)) (by show 4 ≤ 5; decide))) (by show 64 < 64 + 5; decide)) (by show 5 ≤ 6; decide)) (by show 64 < 64 + 6; decide)) (by show 6 ≤ 7; decide)) (by show 64 < 64 + 7; decide)) (by show 7 ≤ 8; decide)) (by show 64 < 64 + 8; decide)) (by show 64 < 64 + 8; decide)) (by show 64 < 64 + 8; decide)) (by show 64 < 64 + 8; decide)) (by decide) dX7_init_76 rfl ?_
  refine z_putR f_X7_51 ⟨zCl7, by decide, by decide, (fun _ => by show 64 < 64 + 9; decide)⟩ rfl (by decide) (Or.inr ⟨rfl, rfl, rfl, zin 325 (by decide +kernel) (by decide +kernel)⟩) rfl rfl dX7_init_78 rfl ?_
  refine z_aload_n (i := 0) dX7_init_81 rfl rfl rfl ?_
  refine z_bipush (v := (60 : Int32)) dX7_init_82 (by decide) rfl ?_
  refine z_newa (atype := .int) (n := 9) (kd := 20) (len := 60) (q := 73) rfl (fun _ _ h9 => h9) w_aI (by decide) (by decide) (by decide) (by decide) (by decide) rfl (by decide) rfl (by decide : 64 + 9 = 73) (zcln_R (zcln_N (zcln_I (zcln_I (zcln_I (zcln_R (zcln_N (zcln_R (zcln_N (zcln_R (zcln_N (zcln_R (cl_mkSight rfl (zcln_N (zcln_R (cl_mkLand rfl (zcln_N hC (by show s.2.2.2 ≤ 2; rw [hN]; decide))) (by show 64 < 64 + 4; decide)) (by show 4 ≤ 5; decide))) (by show 64 < 64 + 5; decide)) (by show 5 ≤ 6; decide)) (by show 64 < 64 + 6; decide)) (by show 6 ≤ 7; decide)) (by show 64 < 64 + 7; decide)) (by show 7 ≤ 8; decide)) (by show 64 < 64 + 8; decide)) (by show 64 < 64 + 8; decide)) (by show 64 < 64 + 8; decide)) (by show 64 < 64 + 8; decide)) (by show 8 ≤ 9; decide)) (by show 64 < 64 + 9; decide)) (by decide) dX7_init_84 rfl ?_
  refine z_putR f_X7_54 ⟨zCl7, by decide, by decide, (fun _ => by show 64 < 64 + 10; decide)⟩ rfl (by decide) (Or.inr ⟨rfl, rfl, rfl, zin 326 (by decide +kernel) (by decide +kernel)⟩) rfl rfl dX7_init_86 rfl ?_
  refine z_aload_n (i := 0) dX7_init_89 rfl rfl rfl ?_
  refine z_new (n := 10) (q := 74) (c := 0) zCl0 cl_X7_57 in_0 ii_0 rfl (by decide : 64 + 10 = 74) (by decide) (zcln_R (zcln_N (zcln_R (zcln_N (zcln_I (zcln_I (zcln_I (zcln_R (zcln_N (zcln_R (zcln_N (zcln_R (zcln_N (zcln_R (cl_mkSight rfl (zcln_N (zcln_R (cl_mkLand rfl (zcln_N hC (by show s.2.2.2 ≤ 2; rw [hN]; decide))) (by show 64 < 64 + 4; decide)) (by show 4 ≤ 5; decide))) (by show 64 < 64 + 5; decide)) (by show 5 ≤ 6; decide)) (by show 64 < 64 + 6; decide)) (by show 6 ≤ 7; decide)) (by show 64 < 64 + 7; decide)) (by show 7 ≤ 8; decide)) (by show 64 < 64 + 8; decide)) (by show 64 < 64 + 8; decide)) (by show 64 < 64 + 8; decide)) (by show 64 < 64 + 8; decide)) (by show 8 ≤ 9; decide)) (by show 64 < 64 + 9; decide)) (by show 9 ≤ 10; decide)) (by show 64 < 64 + 10; decide)) (by decide) dX7_init_90 rfl ?_
  refine z_dup dX7_init_93 rfl rfl ?_
  refine z_callIN (y0 := 11) (y1 := 11) (as := []) k_X0_init rfl m_X7_59 rfl (c_mkCross rfl (zcln_N (zcln_R (zcln_N (zcln_R (zcln_N (zcln_I (zcln_I (zcln_I (zcln_R (zcln_N (zcln_R (zcln_N (zcln_R (zcln_N (zcln_R (cl_mkSight rfl (zcln_N (zcln_R (cl_mkLand rfl (zcln_N hC (by show s.2.2.2 ≤ 2; rw [hN]; decide))) (by show 64 < 64 + 4; decide)) (by show 4 ≤ 5; decide))) (by show 64 < 64 + 5; decide)) (by show 5 ≤ 6; decide)) (by show 64 < 64 + 6; decide)) (by show 6 ≤ 7; decide)) (by show 64 < 64 + 7; decide)) (by show 7 ≤ 8; decide)) (by show 64 < 64 + 8; decide)) (by show 64 < 64 + 8; decide)) (by show 64 < 64 + 8; decide)) (by show 64 < 64 + 8; decide)) (by show 8 ≤ 9; decide)) (by show 64 < 64 + 9; decide)) (by show 9 ≤ 10; decide)) (by show 64 < 64 + 10; decide)) (by show 10 ≤ 11; decide)) (K := fun s1 => s1 = mkCross (zNn (zRf (zNn (zRf (zNn (zI (zI (zI (zRf (zNn (zRf (zNn (zRf (zNn (zRf (mkSight (zNn (zRf (mkLand (zNn s 2)) 64 0 65) 5)) 64 1 68) 6) 64 2 69) 7) 64 4 70) 8) 64 6 71) 64 8 (8 : Int32)) 64 9 (20 : Int32)) 64 10 (1 : Int32)) 9) 64 11 72) 10) 64 12 73) 11)) rfl) rfl (Nat.le_of_ble_eq_true rfl) dX7_init_94 (fun _ _ => ⟨rfl, by decide, by decide⟩) rfl ?_
  rintro v _ ⟨rfl, rfl⟩
  show zAt l g _ 1 100 M_X7_init 97 [.ref 64, zJ] [.ref 74, .ref 64] _ _
  refine z_putR f_X7_60 ⟨zCl7, by decide, by decide, (fun _ => by show 64 < 64 + 11; decide)⟩ rfl (by decide) (Or.inr ⟨rfl, rfl, rfl, zin 327 (by decide +kernel) (by decide +kernel)⟩) rfl rfl dX7_init_97 rfl ?_
  refine z_aload_n (i := 0) dX7_init_100 rfl rfl rfl ?_
  refine z_new (n := 11) (q := 75) (c := 2) zCl2 cl_X7_64 in_2 ii_2 rfl (by decide : 64 + 11 = 75) (by decide) (zcln_R (cl_mkCross rfl (zcln_N (zcln_R (zcln_N (zcln_R (zcln_N (zcln_I (zcln_I (zcln_I (zcln_R (zcln_N (zcln_R (zcln_N (zcln_R (zcln_N (zcln_R (cl_mkSight rfl (zcln_N (zcln_R (cl_mkLand rfl (zcln_N hC (by show s.2.2.2 ≤ 2; rw [hN]; decide))) (by show 64 < 64 + 4; decide)) (by show 4 ≤ 5; decide))) (by show 64 < 64 + 5; decide)) (by show 5 ≤ 6; decide)) (by show 64 < 64 + 6; decide)) (by show 6 ≤ 7; decide)) (by show 64 < 64 + 7; decide)) (by show 7 ≤ 8; decide)) (by show 64 < 64 + 8; decide)) (by show 64 < 64 + 8; decide)) (by show 64 < 64 + 8; decide)) (by show 64 < 64 + 8; decide)) (by show 8 ≤ 9; decide)) (by show 64 < 64 + 9; decide)) (by show 9 ≤ 10; decide)) (by show 64 < 64 + 10; decide)) (by show 10 ≤ 11; decide))) (by show 64 < 64 + 11; decide)) (by decide) dX7_init_101 rfl ?_
  refine z_dup dX7_init_104 rfl rfl ?_
  refine z_callIN (y0 := 12) (y1 := 15) (as := []) k_X2_init rfl m_X7_66 rfl (c_mkReader rfl (zcln_N (zcln_R (cl_mkCross rfl (zcln_N (zcln_R (zcln_N (zcln_R (zcln_N (zcln_I (zcln_I (zcln_I (zcln_R (zcln_N (zcln_R (zcln_N (zcln_R (zcln_N (zcln_R (cl_mkSight rfl (zcln_N (zcln_R (cl_mkLand rfl (zcln_N hC (by show s.2.2.2 ≤ 2; rw [hN]; decide))) (by show 64 < 64 + 4; decide)) (by show 4 ≤ 5; decide))) (by show 64 < 64 + 5; decide)) (by show 5 ≤ 6; decide)) (by show 64 < 64 + 6; decide)) (by show 6 ≤ 7; decide)) (by show 64 < 64 + 7; decide)) (by show 7 ≤ 8; decide)) (by show 64 < 64 + 8; decide)) (by show 64 < 64 + 8; decide)) (by show 64 < 64 + 8; decide)) (by show 64 < 64 + 8; decide)) (by show 8 ≤ 9; decide)) (by show 64 < 64 + 9; decide)) (by show 9 ≤ 10; decide)) (by show 64 < 64 + 10; decide)) (by show 10 ≤ 11; decide))) (by show 64 < 64 + 11; decide)) (by show 11 ≤ 12; decide)) (K := fun s1 => s1 = mkReader (zNn (zRf (mkCross (zNn (zRf (zNn (zRf (zNn (zI (zI (zI (zRf (zNn (zRf (zNn (zRf (zNn (zRf (mkSight (zNn (zRf (mkLand (zNn s 2)) 64 0 65) 5)) 64 1 68) 6) 64 2 69) 7) 64 4 70) 8) 64 6 71) 64 8 (8 : Int32)) 64 9 (20 : Int32)) 64 10 (1 : Int32)) 9) 64 11 72) 10) 64 12 73) 11)) 64 13 74) 12)) rfl) rfl (Nat.le_of_ble_eq_true rfl) dX7_init_105 (fun _ _ => ⟨rfl, by decide, by decide⟩) rfl ?_
  rintro v _ ⟨rfl, rfl⟩
  show zAt l g _ 1 100 M_X7_init 108 [.ref 64, zJ] [.ref 75, .ref 64] _ _
  refine z_putR f_X7_67 ⟨zCl7, by decide, by decide, (fun _ => by show 64 < 64 + 15; decide)⟩ rfl (by decide) (Or.inr ⟨rfl, rfl, rfl, zin 328 (by decide +kernel) (by decide +kernel)⟩) rfl rfl dX7_init_108 rfl ?_
  refine z_aload_n (i := 0) dX7_init_111 rfl rfl rfl ?_
  refine z_new (n := 15) (q := 79) (c := 3) zCl3 cl_X7_71 in_3 ii_3 rfl (by decide : 64 + 15 = 79) (by decide) (zcln_R (cl_mkReader rfl (zcln_N (zcln_R (cl_mkCross rfl (zcln_N (zcln_R (zcln_N (zcln_R (zcln_N (zcln_I (zcln_I (zcln_I (zcln_R (zcln_N (zcln_R (zcln_N (zcln_R (zcln_N (zcln_R (cl_mkSight rfl (zcln_N (zcln_R (cl_mkLand rfl (zcln_N hC (by show s.2.2.2 ≤ 2; rw [hN]; decide))) (by show 64 < 64 + 4; decide)) (by show 4 ≤ 5; decide))) (by show 64 < 64 + 5; decide)) (by show 5 ≤ 6; decide)) (by show 64 < 64 + 6; decide)) (by show 6 ≤ 7; decide)) (by show 64 < 64 + 7; decide)) (by show 7 ≤ 8; decide)) (by show 64 < 64 + 8; decide)) (by show 64 < 64 + 8; decide)) (by show 64 < 64 + 8; decide)) (by show 64 < 64 + 8; decide)) (by show 8 ≤ 9; decide)) (by show 64 < 64 + 9; decide)) (by show 9 ≤ 10; decide)) (by show 64 < 64 + 10; decide)) (by show 10 ≤ 11; decide))) (by show 64 < 64 + 11; decide)) (by show 11 ≤ 12; decide))) (by show 64 < 64 + 15; decide)) (by decide) dX7_init_112 rfl ?_
  refine z_dup dX7_init_115 rfl rfl ?_
  refine z_callIN (y0 := 16) (y1 := 21) (as := []) k_X3_init rfl m_X7_73 rfl (c_mkRules1 rfl (zcln_N (zcln_R (cl_mkReader rfl (zcln_N (zcln_R (cl_mkCross rfl (zcln_N (zcln_R (zcln_N (zcln_R (zcln_N (zcln_I (zcln_I (zcln_I (zcln_R (zcln_N (zcln_R (zcln_N (zcln_R (zcln_N (zcln_R (cl_mkSight rfl (zcln_N (zcln_R (cl_mkLand rfl (zcln_N hC (by show s.2.2.2 ≤ 2; rw [hN]; decide))) (by show 64 < 64 + 4; decide)) (by show 4 ≤ 5; decide))) (by show 64 < 64 + 5; decide)) (by show 5 ≤ 6; decide)) (by show 64 < 64 + 6; decide)) (by show 6 ≤ 7; decide)) (by show 64 < 64 + 7; decide)) (by show 7 ≤ 8; decide)) (by show 64 < 64 + 8; decide)) (by show 64 < 64 + 8; decide)) (by show 64 < 64 + 8; decide)) (by show 64 < 64 + 8; decide)) (by show 8 ≤ 9; decide)) (by show 64 < 64 + 9; decide)) (by show 9 ≤ 10; decide)) (by show 64 < 64 + 10; decide)) (by show 10 ≤ 11; decide))) (by show 64 < 64 + 11; decide)) (by show 11 ≤ 12; decide))) (by show 64 < 64 + 15; decide)) (by show 15 ≤ 16; decide)) (K := fun s1 => s1 = mkRules1 (zNn (zRf (mkReader (zNn (zRf (mkCross (zNn (zRf (zNn (zRf (zNn (zI (zI (zI (zRf (zNn (zRf (zNn (zRf (zNn (zRf (mkSight (zNn (zRf (mkLand (zNn s 2)) 64 0 65) 5)) 64 1 68) 6) 64 2 69) 7) 64 4 70) 8) 64 6 71) 64 8 (8 : Int32)) 64 9 (20 : Int32)) 64 10 (1 : Int32)) 9) 64 11 72) 10) 64 12 73) 11)) 64 13 74) 12)) 64 14 75) 16)) rfl) rfl (Nat.le_of_ble_eq_true rfl) dX7_init_116 (fun _ _ => ⟨rfl, by decide, by decide⟩) rfl ?_
  rintro v _ ⟨rfl, rfl⟩
  show zAt l g _ 1 100 M_X7_init 119 [.ref 64, zJ] [.ref 79, .ref 64] _ _
  refine z_putR f_X7_74 ⟨zCl7, by decide, by decide, (fun _ => by show 64 < 64 + 21; decide)⟩ rfl (by decide) (Or.inl rfl) rfl rfl dX7_init_119 rfl ?_
  refine z_aload_n (i := 0) dX7_init_122 rfl rfl rfl ?_
  refine z_new (n := 21) (q := 85) (c := 3) zCl3 cl_X7_71 in_3 ii_3 rfl (by decide : 64 + 21 = 85) (by decide) (zcln_R (cl_mkRules1 rfl (zcln_N (zcln_R (cl_mkReader rfl (zcln_N (zcln_R (cl_mkCross rfl (zcln_N (zcln_R (zcln_N (zcln_R (zcln_N (zcln_I (zcln_I (zcln_I (zcln_R (zcln_N (zcln_R (zcln_N (zcln_R (zcln_N (zcln_R (cl_mkSight rfl (zcln_N (zcln_R (cl_mkLand rfl (zcln_N hC (by show s.2.2.2 ≤ 2; rw [hN]; decide))) (by show 64 < 64 + 4; decide)) (by show 4 ≤ 5; decide))) (by show 64 < 64 + 5; decide)) (by show 5 ≤ 6; decide)) (by show 64 < 64 + 6; decide)) (by show 6 ≤ 7; decide)) (by show 64 < 64 + 7; decide)) (by show 7 ≤ 8; decide)) (by show 64 < 64 + 8; decide)) (by show 64 < 64 + 8; decide)) (by show 64 < 64 + 8; decide)) (by show 64 < 64 + 8; decide)) (by show 8 ≤ 9; decide)) (by show 64 < 64 + 9; decide)) (by show 9 ≤ 10; decide)) (by show 64 < 64 + 10; decide)) (by show 10 ≤ 11; decide))) (by show 64 < 64 + 11; decide)) (by show 11 ≤ 12; decide))) (by show 64 < 64 + 15; decide)) (by show 15 ≤ 16; decide))) (by show 64 < 64 + 21; decide)) (by decide) dX7_init_123 rfl ?_
  refine z_dup dX7_init_126 rfl rfl ?_
  refine z_callIN (y0 := 22) (y1 := 27) (as := []) k_X3_init rfl m_X7_73 rfl (c_mkRules2 rfl (zcln_N (zcln_R (cl_mkRules1 rfl (zcln_N (zcln_R (cl_mkReader rfl (zcln_N (zcln_R (cl_mkCross rfl (zcln_N (zcln_R (zcln_N (zcln_R (zcln_N (zcln_I (zcln_I (zcln_I (zcln_R (zcln_N (zcln_R (zcln_N (zcln_R (zcln_N (zcln_R (cl_mkSight rfl (zcln_N (zcln_R (cl_mkLand rfl (zcln_N hC (by show s.2.2.2 ≤ 2; rw [hN]; decide))) (by show 64 < 64 + 4; decide)) (by show 4 ≤ 5; decide))) (by show 64 < 64 + 5; decide)) (by show 5 ≤ 6; decide)) (by show 64 < 64 + 6; decide)) (by show 6 ≤ 7; decide)) (by show 64 < 64 + 7; decide)) (by show 7 ≤ 8; decide)) (by show 64 < 64 + 8; decide)) (by show 64 < 64 + 8; decide)) (by show 64 < 64 + 8; decide)) (by show 64 < 64 + 8; decide)) (by show 8 ≤ 9; decide)) (by show 64 < 64 + 9; decide)) (by show 9 ≤ 10; decide)) (by show 64 < 64 + 10; decide)) (by show 10 ≤ 11; decide))) (by show 64 < 64 + 11; decide)) (by show 11 ≤ 12; decide))) (by show 64 < 64 + 15; decide)) (by show 15 ≤ 16; decide))) (by show 64 < 64 + 21; decide)) (by show 21 ≤ 22; decide)) (K := fun s1 => s1 = mkRules2 (zNn (zRf (mkRules1 (zNn (zRf (mkReader (zNn (zRf (mkCross (zNn (zRf (zNn (zRf (zNn (zI (zI (zI (zRf (zNn (zRf (zNn (zRf (zNn (zRf (mkSight (zNn (zRf (mkLand (zNn s 2)) 64 0 65) 5)) 64 1 68) 6) 64 2 69) 7) 64 4 70) 8) 64 6 71) 64 8 (8 : Int32)) 64 9 (20 : Int32)) 64 10 (1 : Int32)) 9) 64 11 72) 10) 64 12 73) 11)) 64 13 74) 12)) 64 14 75) 16)) 64 15 79) 22)) rfl) rfl (Nat.le_of_ble_eq_true rfl) dX7_init_127 (fun _ _ => ⟨rfl, by decide, by decide⟩) rfl ?_
  rintro v _ ⟨rfl, rfl⟩
  show zAt l g _ 1 100 M_X7_init 130 [.ref 64, zJ] [.ref 85, .ref 64] _ _
  refine z_putR f_X7_78 ⟨zCl7, by decide, by decide, (fun _ => by show 64 < 64 + 27; decide)⟩ rfl (by decide) (Or.inl rfl) rfl rfl dX7_init_130 rfl ?_
  refine z_aload_n (i := 0) dX7_init_133 rfl rfl rfl ?_
  refine z_bipush (v := (7 : Int32)) dX7_init_134 (by decide) rfl ?_
  refine z_newa (atype := .int) (n := 27) (kd := 20) (len := 7) (q := 91) rfl (fun _ _ h9 => h9) w_aI (by decide) (by decide) (by decide) (by decide) (by decide) rfl (by decide) rfl (by decide : 64 + 27 = 91) (zcln_R (cl_mkRules2 rfl (zcln_N (zcln_R (cl_mkRules1 rfl (zcln_N (zcln_R (cl_mkReader rfl (zcln_N (zcln_R (cl_mkCross rfl (zcln_N (zcln_R (zcln_N (zcln_R (zcln_N (zcln_I (zcln_I (zcln_I (zcln_R (zcln_N (zcln_R (zcln_N (zcln_R (zcln_N (zcln_R (cl_mkSight rfl (zcln_N (zcln_R (cl_mkLand rfl (zcln_N hC (by show s.2.2.2 ≤ 2; rw [hN]; decide))) (by show 64 < 64 + 4; decide)) (by show 4 ≤ 5; decide))) (by show 64 < 64 + 5; decide)) (by show 5 ≤ 6; decide)) (by show 64 < 64 + 6; decide)) (by show 6 ≤ 7; decide)) (by show 64 < 64 + 7; decide)) (by show 7 ≤ 8; decide)) (by show 64 < 64 + 8; decide)) (by show 64 < 64 + 8; decide)) (by show 64 < 64 + 8; decide)) (by show 64 < 64 + 8; decide)) (by show 8 ≤ 9; decide)) (by show 64 < 64 + 9; decide)) (by show 9 ≤ 10; decide)) (by show 64 < 64 + 10; decide)) (by show 10 ≤ 11; decide))) (by show 64 < 64 + 11; decide)) (by show 11 ≤ 12; decide))) (by show 64 < 64 + 15; decide)) (by show 15 ≤ 16; decide))) (by show 64 < 64 + 21; decide)) (by show 21 ≤ 22; decide))) (by show 64 < 64 + 27; decide)) (by decide) dX7_init_136 rfl ?_
  refine z_putR f_X7_81 ⟨zCl7, by decide, by decide, (fun _ => by show 64 < 64 + 28; decide)⟩ rfl (by decide) (Or.inr ⟨rfl, rfl, rfl, zin 331 (by decide +kernel) (by decide +kernel)⟩) rfl rfl dX7_init_138 rfl ?_
  refine z_iconst (v := (0 : Int32)) dX7_init_141 (by decide) rfl ?_
  refine z_istore_n (i := 1) dX7_init_142 rfl (by decide) (zokd rfl) rfl ?_
  exact h
