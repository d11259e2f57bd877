/-! ===== the makers ===== -/
theorem w_oi : Cond.instanceMethod Lib.objectInit ∈ lw_g := zin 24 (by decide +kernel) (by decide +kernel)
theorem w_oc : Cond.code Lib.objectInit ⟨#[0xb1]⟩ 1 none ∈ lw_g := zin 25 (by decide +kernel) (by decide +kernel)
theorem w_aI : Cond.arrayClass .int ∈ lw_g := zin 50 (by decide +kernel) (by decide +kernel)
theorem w_aB : Cond.arrayClass .byte ∈ lw_g := zin 887 (by decide +kernel) (by decide +kernel)
theorem w_aZ : Cond.arrayClass .boolean ∈ lw_g := zin 1127 (by decide +kernel) (by decide +kernel)
theorem cl_L_7 : Cond.classLink RL 7 (zRn 7) ∈ lw_g := zin 18 (by decide +kernel) (by decide +kernel)
theorem in_7 : Cond.instantiable (zRn 7) (zN 7) ∈ lw_g := zin 19 (by decide +kernel) (by decide +kernel)
theorem ii_7 : Cond.initialized (zRn 7) ∈ lw_g := zin 1 (by decide +kernel) (by decide +kernel)
theorem oi_X7 : Cond.methodLink RX7 3 Lib.objectInit ∈ lw_g := zin 23 (by decide +kernel) (by decide +kernel)
theorem cl_X7_9 : Cond.classLink RX7 9 (zRn 1) ∈ lw_g := zin 26 (by decide +kernel) (by decide +kernel)
theorem in_1 : Cond.instantiable (zRn 1) (zN 1) ∈ lw_g := zin 27 (by decide +kernel) (by decide +kernel)
theorem ii_1 : Cond.initialized (zRn 1) ∈ lw_g := zin 2 (by decide +kernel) (by decide +kernel)
theorem oi_X1 : Cond.methodLink RX1 3 Lib.objectInit ∈ lw_g := zin 31 (by decide +kernel) (by decide +kernel)
theorem cl_X7_16 : Cond.classLink RX7 16 (zRn 4) ∈ lw_g := zin 51 (by decide +kernel) (by decide +kernel)
theorem in_4 : Cond.instantiable (zRn 4) (zN 4) ∈ lw_g := zin 52 (by decide +kernel) (by decide +kernel)
theorem ii_4 : Cond.initialized (zRn 4) ∈ lw_g := zin 4 (by decide +kernel) (by decide +kernel)
theorem oi_X4 : Cond.methodLink RX4 3 Lib.objectInit ∈ lw_g := zin 56 (by decide +kernel) (by decide +kernel)
theorem cl_X7_29 : Cond.classLink RX7 29 (zRn 6) ∈ lw_g := zin 90 (by decide +kernel) (by decide +kernel)
theorem cl_X7_35 : Cond.classLink RX7 35 (zRn 5) ∈ lw_g := zin 92 (by decide +kernel) (by decide +kernel)
theorem cl_X7_57 : Cond.classLink RX7 57 (zRn 0) ∈ lw_g := zin 94 (by decide +kernel) (by decide +kernel)
theorem in_0 : Cond.instantiable (zRn 0) (zN 0) ∈ lw_g := zin 95 (by decide +kernel) (by decide +kernel)
theorem ii_0 : Cond.initialized (zRn 0) ∈ lw_g := zin 5 (by decide +kernel) (by decide +kernel)
theorem oi_X0 : Cond.methodLink RX0 3 Lib.objectInit ∈ lw_g := zin 99 (by decide +kernel) (by decide +kernel)
theorem cl_X7_64 : Cond.classLink RX7 64 (zRn 2) ∈ lw_g := zin 119 (by decide +kernel) (by decide +kernel)
theorem in_2 : Cond.instantiable (zRn 2) (zN 2) ∈ lw_g := zin 120 (by decide +kernel) (by decide +kernel)
theorem ii_2 : Cond.initialized (zRn 2) ∈ lw_g := zin 6 (by decide +kernel) (by decide +kernel)
theorem oi_X2 : Cond.methodLink RX2 3 Lib.objectInit ∈ lw_g := zin 124 (by decide +kernel) (by decide +kernel)
theorem cl_X7_71 : Cond.classLink RX7 71 (zRn 3) ∈ lw_g := zin 145 (by decide +kernel) (by decide +kernel)
theorem in_3 : Cond.instantiable (zRn 3) (zN 3) ∈ lw_g := zin 146 (by decide +kernel) (by decide +kernel)
theorem ii_3 : Cond.initialized (zRn 3) ∈ lw_g := zin 7 (by decide +kernel) (by decide +kernel)
theorem oi_X3 : Cond.methodLink RX3 3 Lib.objectInit ∈ lw_g := zin 150 (by decide +kernel) (by decide +kernel)
theorem in_6 : Cond.instantiable (zRn 6) (zN 6) ∈ lw_g := zin 190 (by decide +kernel) (by decide +kernel)
theorem ii_6 : Cond.initialized (zRn 6) ∈ lw_g := zin 8 (by decide +kernel) (by decide +kernel)
theorem oi_X6 : Cond.methodLink RX6 3 Lib.objectInit ∈ lw_g := zin 194 (by decide +kernel) (by decide +kernel)
theorem in_5 : Cond.instantiable (zRn 5) (zN 5) ∈ lw_g := zin 257 (by decide +kernel) (by decide +kernel)
theorem ii_5 : Cond.initialized (zRn 5) ∈ lw_g := zin 9 (by decide +kernel) (by decide +kernel)
theorem oi_X5 : Cond.methodLink RX5 3 Lib.objectInit ∈ lw_g := zin 261 (by decide +kernel) (by decide +kernel)
theorem cl_L_10 : Cond.classLink RL 10 (zRn 8) ∈ lw_g := zin 967 (by decide +kernel) (by decide +kernel)
theorem in_8 : Cond.instantiable (zRn 8) (zN 8) ∈ lw_g := zin 968 (by decide +kernel) (by decide +kernel)
theorem ii_8 : Cond.initialized (zRn 8) ∈ lw_g := zin 10 (by decide +kernel) (by decide +kernel)
theorem oi_X8 : Cond.methodLink RX8 1 Lib.objectInit ∈ lw_g := zin 972 (by decide +kernel) (by decide +kernel)
theorem cl_X8_61 : Cond.classLink RX8 61 ("[" ++ (FieldType.array .int).toString) ∈ lw_g := zin 973 (by decide +kernel) (by decide +kernel)
theorem cl_X8_108 : Cond.classLink RX8 108 ("java/lang/String") ∈ lw_g := zin 975 (by decide +kernel) (by decide +kernel)
section ZMI
variable {l : Launch} {g : zG} {d : Nat} {σ : zS}
theorem zcln_M {q a n : Nat} (h : zcln σ) (hN : σ.2.2.2 = n) (hq : 64 + n = q) : zcln (zMul σ q a n) := fun p k hp => by
  have hp : 64 + (n + 1 + a) ≤ p := hp
  have := h p k (by omega)
  refine ⟨this.1, this.2.1, ?_⟩
  show (if p = q ∧ k < a then q + 1 + k else σ.2.2.1 p k) = 0
  rw [if_neg (by omega)]
  exact this.2.2
/-- o's first n places hold v -/
def zFill (σ : zS) (o n : Nat) (v : Int32) : zS := (fun p k => if p = o ∧ k < n then v else σ.1 p k, σ.2)
theorem zFill_0 {o : Nat} {v : Int32} : zFill σ o 0 v = σ := by
  unfold zFill
  refine Prod.ext ?_ rfl
  funext p k
  simp
theorem zFill_s {o n : Nat} {v : Int32} : zI (zFill σ o n v) o n v = zFill σ o (n + 1) v := by
  unfold zFill zI
  refine Prod.ext ?_ rfl
  funext p k
  show (if p = o ∧ k = n then v else if p = o ∧ k < n then v else σ.1 p k) = if p = o ∧ k < n + 1 then v else σ.1 p k
  by_cases h1 : p = o ∧ k = n
  · rw [if_pos h1, if_pos (by omega)]
  · rw [if_neg h1]
    by_cases h2 : p = o ∧ k < n
    · rw [if_pos h2, if_pos (by omega)]
    · rw [if_neg h2, if_neg (by omega)]
theorem zcln_F {o n : Nat} {v : Int32} (h : zcln σ) (ho : o < 64 + σ.2.2.2) : zcln (zFill σ o n v) := fun p q hp => by
  have hp : 64 + σ.2.2.2 ≤ p := hp
  refine ⟨?_, (h p q hp).2.1, (h p q hp).2.2⟩
  show (if p = o ∧ q < n then v else σ.1 p q) = 0
  rw [if_neg (by omega)]
  exact (h p q hp).1
theorem dJ7_fill_53178_0 : decode cJ7_fill_53178 0 = .ok (.iconst 0, 1) := by decide +kernel
theorem dJ7_fill_53178_1 : decode cJ7_fill_53178 1 = .ok (.istore_n 2, 1) := by decide +kernel
theorem dJ7_fill_53178_2 : decode cJ7_fill_53178 2 = .ok (.aload_n 0, 1) := by decide +kernel
theorem dJ7_fill_53178_3 : decode cJ7_fill_53178 3 = .ok (.arraylength, 1) := by decide +kernel
theorem dJ7_fill_53178_4 : decode cJ7_fill_53178 4 = .ok (.istore_n 3, 1) := by decide +kernel
theorem dJ7_fill_53178_5 : decode cJ7_fill_53178 5 = .ok (.iload_n 2, 1) := by decide +kernel
theorem dJ7_fill_53178_6 : decode cJ7_fill_53178 6 = .ok (.iload_n 3, 1) := by decide +kernel
theorem dJ7_fill_53178_7 : decode cJ7_fill_53178 7 = .ok (.if_icmp .ge 13, 3) := by decide +kernel
theorem dJ7_fill_53178_10 : decode cJ7_fill_53178 10 = .ok (.aload_n 0, 1) := by decide +kernel
theorem dJ7_fill_53178_11 : decode cJ7_fill_53178 11 = .ok (.iload_n 2, 1) := by decide +kernel
theorem dJ7_fill_53178_12 : decode cJ7_fill_53178 12 = .ok (.iload_n 1, 1) := by decide +kernel
theorem dJ7_fill_53178_13 : decode cJ7_fill_53178 13 = .ok (.iastore, 1) := by decide +kernel
theorem dJ7_fill_53178_14 : decode cJ7_fill_53178 14 = .ok (.iinc 2 1, 3) := by decide +kernel
theorem dJ7_fill_53178_17 : decode cJ7_fill_53178 17 = .ok (.goto (-12), 3) := by decide +kernel
theorem dJ7_fill_53178_20 : decode cJ7_fill_53178 20 = .ok (.return_, 1) := by decide +kernel
theorem fill_loop {z N o : Nat} {v : Int32} {s : zS} {K : zS → Prop} (hN : s.2.2.2 = z) (ho : zk o = 20 ∧ zn o = N ∧ 64 ≤ o ∧ o < 64 + z) (hNb : N < 2 ^ 31) : ∀ n k : Nat, k + n = N → K (zFill s o N v) → zAt l g d z z M_J7_fill_53178 5 [.ref o, .int v, .int (nI k), .int (nI N)] [] (zFill s o k v) (zKv K) := by
  intro n
  have ha : ∀ k, zAr (zFill s o k v) z 20 N o := fun k => ⟨ho.1, ho.2.1, ho.2.2.1, fun _ => by show o < 64 + s.2.2.2; rw [hN]; exact ho.2.2.2⟩
  induction n with
  | zero =>
    intro k hk h
    refine z_iload_n (i := 2) dJ7_fill_53178_5 rfl rfl rfl ?_
    refine z_iload_n (i := 3) dJ7_fill_53178_6 rfl rfl rfl ?_
    refine z_icmp_ge (pt := 20) dJ7_fill_53178_7 (by decide) rfl (fun _ => ?_) (fun c => absurd (nI_le (by omega) (by omega)) c)
    refine z_ret none (Or.inl ⟨rfl, rfl, dJ7_fill_53178_20⟩) (fun _ _ => by show s.2.2.2 = z; exact hN) ⟨rfl, ?_⟩
    rw [show k = N by omega]
    exact h
  | succ n ih =>
    intro k hk h
    refine z_iload_n (i := 2) dJ7_fill_53178_5 rfl rfl rfl ?_
    refine z_iload_n (i := 3) dJ7_fill_53178_6 rfl rfl rfl ?_
    refine z_icmp_ge (pt := 20) dJ7_fill_53178_7 (by decide) rfl (fun c => absurd c (nI_ge (by omega) hNb)) (fun _ => ?_)
    refine z_aload_n (i := 0) dJ7_fill_53178_10 rfl rfl rfl ?_
    refine z_iload_n (i := 2) dJ7_fill_53178_11 rfl rfl rfl ?_
    refine z_iload_n (i := 1) dJ7_fill_53178_12 rfl rfl rfl ?_
    refine z_iast (ha k) (vp_in_nI (by omega) hNb) dJ7_fill_53178_13 rfl ?_
    refine z_iinc (v := nI (k + 1)) dJ7_fill_53178_14 rfl (nI_succ k).symm (by decide) (zokd rfl) rfl ?_
    refine z_goto (pn := 5) dJ7_fill_53178_17 (by decide) ?_
    rw [nI_clamp (by omega), zFill_s]
    exact ih (k + 1) (by omega) h
theorem c_fill {z N o : Nat} {v : Int32} {s : zS} {K : zS → Prop} (hN : s.2.2.2 = z) (ho : zk o = 20 ∧ zn o = N ∧ 64 ≤ o ∧ o < 64 + z) (hNb : N < 2 ^ 31) (h : K (zFill s o N v)) : zCall l g d z z M_J7_fill_53178 [.ref o, .int v] s (zKv K) := by
  refine zCall_of k_J7_fill_53178 (Nat.le_of_ble_eq_true rfl) (Nat.le_refl _) (fun _ => ?_)
  show zAt l g d z z M_J7_fill_53178 0 [.ref o, .int v, zJ, zJ] [] s (zKv K)
  refine z_iconst (v := 0) dJ7_fill_53178_0 (by decide) rfl ?_
  refine z_istore_n (i := 2) dJ7_fill_53178_1 rfl (by decide) (zokd rfl) rfl ?_
  refine z_aload_n (i := 0) dJ7_fill_53178_2 rfl rfl rfl ?_
  refine z_alen (v := nI N) (by decide) ⟨ho.1, ho.2.1, ho.2.2.1, fun _ => by rw [hN]; exact ho.2.2.2⟩ rfl dJ7_fill_53178_3 rfl ?_
  refine z_istore_n (i := 3) dJ7_fill_53178_4 rfl (by decide) (zokd rfl) rfl ?_
  have := fill_loop (l := l) (g := g) (d := d) (v := v) hN ho hNb N 0 (by omega) h
  rw [zFill_0] at this
  exact this
end ZMI
theorem dX1_init_0 : decode cX1_init 0 = .ok (.aload_n 0, 1) := by decide +kernel
theorem dX1_init_1 : decode cX1_init 1 = .ok (.invokespecial 3, 3) := by decide +kernel
theorem dX1_init_4 : decode cX1_init 4 = .ok (.aload_n 0, 1) := by decide +kernel
theorem dX1_init_5 : decode cX1_init 5 = .ok (.sipush 4096, 3) := by decide +kernel
theorem dX1_init_8 : decode cX1_init 8 = .ok (.newarray .int, 2) := by decide +kernel
theorem dX1_init_10 : decode cX1_init 10 = .ok (.putfield 9, 3) := by decide +kernel
theorem dX1_init_13 : decode cX1_init 13 = .ok (.aload_n 0, 1) := by decide +kernel
theorem dX1_init_14 : decode cX1_init 14 = .ok (.sipush 4096, 3) := by decide +kernel
theorem dX1_init_17 : decode cX1_init 17 = .ok (.newarray .int, 2) := by decide +kernel
theorem dX1_init_19 : decode cX1_init 19 = .ok (.putfield 15, 3) := by decide +kernel
theorem dX1_init_22 : decode cX1_init 22 = .ok (.aload_n 0, 1) := by decide +kernel
theorem dX1_init_23 : decode cX1_init 23 = .ok (.getfield 15, 3) := by decide +kernel
theorem dX1_init_26 : decode cX1_init 26 = .ok (.iconst (-1), 1) := by decide +kernel
theorem dX1_init_27 : decode cX1_init 27 = .ok (.invokestatic 18, 3) := by decide +kernel
theorem dX1_init_30 : decode cX1_init 30 = .ok (.return_, 1) := by decide +kernel
def mkLand (s : zS) : zS := zFill (zRf (zNn (zRf (zNn s 3) 65 0 66) 4) 65 1 67) 67 4096 (-1 : Int32)
theorem cl_mkLand {s : zS} (hN : s.2.2.2 = 2) (hC : zcln s) : zcln (mkLand s) := (zcln_F (zcln_R (zcln_N (zcln_R (zcln_N hC (by show s.2.2.2 ≤ 3; rw [hN]; decide)) (by show 65 < 64 + 3; decide)) (by show 3 ≤ 4; decide)) (by show 65 < 64 + 4; decide)) (by show 67 < 64 + 4; decide))
set_option maxRecDepth 100000 in
set_option maxHeartbeats 4000000 in
theorem c_mkLand {l : Launch} {g : zG} {d : Nat} {s : zS} (hN : s.2.2.2 = 2) (hC : zcln s) {K : zS → Prop} (h : K (mkLand s)) : zCall l g (d + 2) 2 4 M_X1_init [.ref 65] s (zKv K) := by
  refine zCall_of k_X1_init (Nat.le_of_ble_eq_true rfl) (by decide) (fun _ => ?_)
  show zAt l g (d + 2) 2 4 M_X1_init 0 [.ref 65] [] s (zKv K)
  refine z_aload_n (i := 0) dX1_init_0 rfl rfl rfl ?_
  refine z_objInit oi_X1 w_oi w_oc dX1_init_1 (Nat.le_of_ble_eq_true rfl) rfl ?_
  refine z_aload_n (i := 0) dX1_init_4 rfl rfl rfl ?_
  refine z_sipush (v := (4096 : Int32)) dX1_init_5 (by decide) rfl ?_
  refine z_newa (atype := .int) (n := 2) (kd := 20) (len := 4096) (q := 66) rfl (fun _ _ h9 => h9) w_aI (by decide) (by decide) (by decide) (by decide) (by decide) rfl (by decide) hN (by decide : 64 + 2 = 66) hC (by decide) dX1_init_8 rfl ?_
  refine z_putR f_X1_9 ⟨zCl1, by decide, by decide, (fun _ => by show 65 < 64 + 3; decide)⟩ rfl (by decide) (Or.inr ⟨rfl, rfl, rfl, zin 35 (by decide +kernel) (by decide +kernel)⟩) rfl rfl dX1_init_10 rfl ?_
  refine z_aload_n (i := 0) dX1_init_13 rfl rfl rfl ?_
  refine z_sipush (v := (4096 : Int32)) dX1_init_14 (by decide) rfl ?_
  refine z_newa (atype := .int) (n := 3) (kd := 20) (len := 4096) (q := 67) rfl (fun _ _ h9 => h9) w_aI (by decide) (by decide) (by decide) (by decide) (by decide) rfl (by decide) rfl (by decide : 64 + 3 = 67) (zcln_R (zcln_N hC (by show s.2.2.2 ≤ 3; rw [hN]; decide)) (by show 65 < 64 + 3; decide)) (by decide) dX1_init_17 rfl ?_
  refine z_putR f_X1_15 ⟨zCl1, by decide, by decide, (fun _ => by show 65 < 64 + 4; decide)⟩ rfl (by decide) (Or.inr ⟨rfl, rfl, rfl, zin 36 (by decide +kernel) (by decide +kernel)⟩) rfl rfl dX1_init_19 rfl ?_
  refine z_aload_n (i := 0) dX1_init_22 rfl rfl rfl ?_
  refine z_getR (q := 67) f_X1_15 ⟨zCl1, by decide, by decide, (fun _ => by show 65 < 64 + 4; decide)⟩ rfl (by rfl) (by decide) dX1_init_23 rfl ?_
  refine z_iconst (v := (-1 : Int32)) dX1_init_26 (by decide) rfl ?_
  refine z_callS (y0 := 4) (y1 := 4) (as := [.ref 67, .int (-1 : Int32)]) k_J7_fill_53178 m_X1_18 rfl (c_fill (N := 4096) rfl (by decide) (by decide) (K := fun s1 => s1 = zFill (zRf (zNn (zRf (zNn s 3) 65 0 66) 4) 65 1 67) 67 4096 (-1 : Int32)) rfl) rfl (Nat.le_of_ble_eq_true rfl) dX1_init_27 (fun _ _ => ⟨rfl, by decide, by decide⟩) rfl ?_
  rintro v _ ⟨rfl, rfl⟩
  exact z_ret none (Or.inl ⟨rfl, rfl, dX1_init_30⟩) (fun _ _ => rfl) ⟨rfl, h⟩
theorem dX4_init_0 : decode cX4_init 0 = .ok (.aload_n 0, 1) := by decide +kernel
theorem dX4_init_1 : decode cX4_init 1 = .ok (.invokespecial 3, 3) := by decide +kernel
theorem dX4_init_4 : decode cX4_init 4 = .ok (.aload_n 0, 1) := by decide +kernel
theorem dX4_init_5 : decode cX4_init 5 = .ok (.aload_n 1, 1) := by decide +kernel
theorem dX4_init_6 : decode cX4_init 6 = .ok (.putfield 9, 3) := by decide +kernel
theorem dX4_init_9 : decode cX4_init 9 = .ok (.return_, 1) := by decide +kernel
def mkSight (s : zS) : zS := zRf s 68 0 65
theorem cl_mkSight {s : zS} (hN : s.2.2.2 = 5) (hC : zcln s) : zcln (mkSight s) := (zcln_R hC (by show 68 < 64 + (s).2.2.2; rw [hN]; decide))
set_option maxRecDepth 100000 in
set_option maxHeartbeats 4000000 in
theorem c_mkSight {l : Launch} {g : zG} {d : Nat} {s : zS} (hN : s.2.2.2 = 5) (hC : zcln s) {K : zS → Prop} (h : K (mkSight s)) : zCall l g (d + 1) 5 5 M_X4_init [.ref 68, .ref 65] s (zKv K) := by
  refine zCall_of k_X4_init (Nat.le_of_ble_eq_true rfl) (by decide) (fun _ => ?_)
  show zAt l g (d + 1) 5 5 M_X4_init 0 [.ref 68, .ref 65] [] s (zKv K)
  refine z_aload_n (i := 0) dX4_init_0 rfl rfl rfl ?_
  refine z_objInit oi_X4 w_oi w_oc dX4_init_1 (Nat.le_of_ble_eq_true rfl) rfl ?_
  refine z_aload_n (i := 0) dX4_init_4 rfl rfl rfl ?_
  refine z_aload_n (i := 1) dX4_init_5 rfl rfl rfl ?_
  refine z_putR f_X4_9 ⟨zCl4, by decide, by decide, (fun _ => by show 68 < 64 + (s).2.2.2; rw [hN]; decide)⟩ rfl (by decide) (Or.inr ⟨rfl, rfl, rfl, zin 57 (by decide +kernel) (by decide +kernel)⟩) rfl rfl dX4_init_6 rfl ?_
  exact z_ret none (Or.inl ⟨rfl, rfl, dX4_init_9⟩) (fun _ _ => hN) ⟨rfl, h⟩
theorem dX0_init_0 : decode cX0_init 0 = .ok (.aload_n 0, 1) := by decide +kernel
theorem dX0_init_1 : decode cX0_init 1 = .ok (.invokespecial 3, 3) := by decide +kernel
theorem dX0_init_4 : decode cX0_init 4 = .ok (.return_, 1) := by decide +kernel
def mkCross (s : zS) : zS := s
theorem cl_mkCross {s : zS} (hN : s.2.2.2 = 11) (hC : zcln s) : zcln (mkCross s) := hC
set_option maxRecDepth 100000 in
set_option maxHeartbeats 4000000 in
theorem c_mkCross {l : Launch} {g : zG} {d : Nat} {s : zS} (hN : s.2.2.2 = 11) (hC : zcln s) {K : zS → Prop} (h : K (mkCross s)) : zCall l g (d + 1) 11 11 M_X0_init [.ref 74] s (zKv K) := by
  refine zCall_of k_X0_init (Nat.le_of_ble_eq_true rfl) (by decide) (fun _ => ?_)
  show zAt l g (d + 1) 11 11 M_X0_init 0 [.ref 74] [] s (zKv K)
  refine z_aload_n (i := 0) dX0_init_0 rfl rfl rfl ?_
  refine z_objInit oi_X0 w_oi w_oc dX0_init_1 (Nat.le_of_ble_eq_true rfl) rfl ?_
  exact z_ret none (Or.inl ⟨rfl, rfl, dX0_init_4⟩) (fun _ _ => hN) ⟨rfl, h⟩
theorem dX2_init_0 : decode cX2_init 0 = .ok (.aload_n 0, 1) := by decide +kernel
theorem dX2_init_1 : decode cX2_init 1 = .ok (.invokespecial 3, 3) := by decide +kernel
theorem dX2_init_4 : decode cX2_init 4 = .ok (.aload_n 0, 1) := by decide +kernel
theorem dX2_init_5 : decode cX2_init 5 = .ok (.sipush 400, 3) := by decide +kernel
theorem dX2_init_8 : decode cX2_init 8 = .ok (.newarray .int, 2) := by decide +kernel
theorem dX2_init_10 : decode cX2_init 10 = .ok (.putfield 9, 3) := by decide +kernel
theorem dX2_init_13 : decode cX2_init 13 = .ok (.aload_n 0, 1) := by decide +kernel
theorem dX2_init_14 : decode cX2_init 14 = .ok (.sipush 401, 3) := by decide +kernel
theorem dX2_init_17 : decode cX2_init 17 = .ok (.newarray .int, 2) := by decide +kernel
theorem dX2_init_19 : decode cX2_init 19 = .ok (.putfield 15, 3) := by decide +kernel
theorem dX2_init_22 : decode cX2_init 22 = .ok (.aload_n 0, 1) := by decide +kernel
theorem dX2_init_23 : decode cX2_init 23 = .ok (.sipush 401, 3) := by decide +kernel
theorem dX2_init_26 : decode cX2_init 26 = .ok (.newarray .int, 2) := by decide +kernel
theorem dX2_init_28 : decode cX2_init 28 = .ok (.putfield 18, 3) := by decide +kernel
theorem dX2_init_31 : decode cX2_init 31 = .ok (.return_, 1) := by decide +kernel
def mkReader (s : zS) : zS := zRf (zNn (zRf (zNn (zRf (zNn s 13) 75 0 76) 14) 75 2 77) 15) 75 3 78
theorem cl_mkReader {s : zS} (hN : s.2.2.2 = 12) (hC : zcln s) : zcln (mkReader s) := (zcln_R (zcln_N (zcln_R (zcln_N (zcln_R (zcln_N hC (by show s.2.2.2 ≤ 13; rw [hN]; decide)) (by show 75 < 64 + 13; decide)) (by show 13 ≤ 14; decide)) (by show 75 < 64 + 14; decide)) (by show 14 ≤ 15; decide)) (by show 75 < 64 + 15; decide))
set_option maxRecDepth 100000 in
set_option maxHeartbeats 4000000 in
theorem c_mkReader {l : Launch} {g : zG} {d : Nat} {s : zS} (hN : s.2.2.2 = 12) (hC : zcln s) {K : zS → Prop} (h : K (mkReader s)) : zCall l g (d + 1) 12 15 M_X2_init [.ref 75] s (zKv K) := by
  refine zCall_of k_X2_init (Nat.le_of_ble_eq_true rfl) (by decide) (fun _ => ?_)
  show zAt l g (d + 1) 12 15 M_X2_init 0 [.ref 75] [] s (zKv K)
  refine z_aload_n (i := 0) dX2_init_0 rfl rfl rfl ?_
  refine z_objInit oi_X2 w_oi w_oc dX2_init_1 (Nat.le_of_ble_eq_true rfl) rfl ?_
  refine z_aload_n (i := 0) dX2_init_4 rfl rfl rfl ?_
  refine z_sipush (v := (400 : Int32)) dX2_init_5 (by decide) rfl ?_
  refine z_newa (atype := .int) (n := 12) (kd := 20) (len := 400) (q := 76) rfl (fun _ _ h9 => h9) w_aI (by decide) (by decide) (by decide) (by decide) (by decide) rfl (by decide) hN (by decide : 64 + 12 = 76) hC (by decide) dX2_init_8 rfl ?_
  refine z_putR f_X2_9 ⟨zCl2, by decide, by decide, (fun _ => by show 75 < 64 + 13; decide)⟩ rfl (by decide) (Or.inr ⟨rfl, rfl, rfl, zin 125 (by decide +kernel) (by decide +kernel)⟩) rfl rfl dX2_init_10 rfl ?_
  refine z_aload_n (i := 0) dX2_init_13 rfl rfl rfl ?_
  refine z_sipush (v := (401 : Int32)) dX2_init_14 (by decide) rfl ?_
  refine z_newa (atype := .int) (n := 13) (kd := 20) (len := 401) (q := 77) rfl (fun _ _ h9 => h9) w_aI (by decide) (by decide) (by decide) (by decide) (by decide) rfl (by decide) rfl (by decide : 64 + 13 = 77) (zcln_R (zcln_N hC (by show s.2.2.2 ≤ 13; rw [hN]; decide)) (by show 75 < 64 + 13; decide)) (by decide) dX2_init_17 rfl ?_
  refine z_putR f_X2_15 ⟨zCl2, by decide, by decide, (fun _ => by show 75 < 64 + 14; decide)⟩ rfl (by decide) (Or.inr ⟨rfl, rfl, rfl, zin 128 (by decide +kernel) (by decide +kernel)⟩) rfl rfl dX2_init_19 rfl ?_
  refine z_aload_n (i := 0) dX2_init_22 rfl rfl rfl ?_
  refine z_sipush (v := (401 : Int32)) dX2_init_23 (by decide) rfl ?_
  refine z_newa (atype := .int) (n := 14) (kd := 20) (len := 401) (q := 78) rfl (fun _ _ h9 => h9) w_aI (by decide) (by decide) (by decide) (by decide) (by decide) rfl (by decide) rfl (by decide : 64 + 14 = 78) (zcln_R (zcln_N (zcln_R (zcln_N hC (by show s.2.2.2 ≤ 13; rw [hN]; decide)) (by show 75 < 64 + 13; decide)) (by show 13 ≤ 14; decide)) (by show 75 < 64 + 14; decide)) (by decide) dX2_init_26 rfl ?_
  refine z_putR f_X2_18 ⟨zCl2, by decide, by decide, (fun _ => by show 75 < 64 + 15; decide)⟩ rfl (by decide) (Or.inr ⟨rfl, rfl, rfl, zin 129 (by decide +kernel) (by decide +kernel)⟩) rfl rfl dX2_init_28 rfl ?_
  exact z_ret none (Or.inl ⟨rfl, rfl, dX2_init_31⟩) (fun _ _ => rfl) ⟨rfl, h⟩
theorem dX3_init_0 : decode cX3_init 0 = .ok (.aload_n 0, 1) := by decide +kernel
theorem dX3_init_1 : decode cX3_init 1 = .ok (.invokespecial 3, 3) := by decide +kernel
theorem dX3_init_4 : decode cX3_init 4 = .ok (.aload_n 0, 1) := by decide +kernel
theorem dX3_init_5 : decode cX3_init 5 = .ok (.sipush 400, 3) := by decide +kernel
theorem dX3_init_8 : decode cX3_init 8 = .ok (.newarray .int, 2) := by decide +kernel
theorem dX3_init_10 : decode cX3_init 10 = .ok (.putfield 9, 3) := by decide +kernel
theorem dX3_init_13 : decode cX3_init 13 = .ok (.aload_n 0, 1) := by decide +kernel
theorem dX3_init_14 : decode cX3_init 14 = .ok (.bipush 12, 2) := by decide +kernel
theorem dX3_init_16 : decode cX3_init 16 = .ok (.newarray .int, 2) := by decide +kernel
theorem dX3_init_18 : decode cX3_init 18 = .ok (.putfield 15, 3) := by decide +kernel
theorem dX3_init_21 : decode cX3_init 21 = .ok (.aload_n 0, 1) := by decide +kernel
theorem dX3_init_22 : decode cX3_init 22 = .ok (.bipush 12, 2) := by decide +kernel
theorem dX3_init_24 : decode cX3_init 24 = .ok (.newarray .int, 2) := by decide +kernel
theorem dX3_init_26 : decode cX3_init 26 = .ok (.putfield 18, 3) := by decide +kernel
theorem dX3_init_29 : decode cX3_init 29 = .ok (.aload_n 0, 1) := by decide +kernel
theorem dX3_init_30 : decode cX3_init 30 = .ok (.bipush 12, 2) := by decide +kernel
theorem dX3_init_32 : decode cX3_init 32 = .ok (.newarray .int, 2) := by decide +kernel
theorem dX3_init_34 : decode cX3_init 34 = .ok (.putfield 21, 3) := by decide +kernel
theorem dX3_init_37 : decode cX3_init 37 = .ok (.aload_n 0, 1) := by decide +kernel
theorem dX3_init_38 : decode cX3_init 38 = .ok (.bipush 24, 2) := by decide +kernel
theorem dX3_init_40 : decode cX3_init 40 = .ok (.newarray .int, 2) := by decide +kernel
theorem dX3_init_42 : decode cX3_init 42 = .ok (.putfield 24, 3) := by decide +kernel
theorem dX3_init_45 : decode cX3_init 45 = .ok (.return_, 1) := by decide +kernel
def mkRules1 (s : zS) : zS := zRf (zNn (zRf (zNn (zRf (zNn (zRf (zNn (zRf (zNn s 17) 79 0 80) 18) 79 6 81) 19) 79 7 82) 20) 79 8 83) 21) 79 9 84
theorem cl_mkRules1 {s : zS} (hN : s.2.2.2 = 16) (hC : zcln s) : zcln (mkRules1 s) := (zcln_R (zcln_N (zcln_R (zcln_N (zcln_R (zcln_N (zcln_R (zcln_N (zcln_R (zcln_N hC (by show s.2.2.2 ≤ 17; rw [hN]; decide)) (by show 79 < 64 + 17; decide)) (by show 17 ≤ 18; decide)) (by show 79 < 64 + 18; decide)) (by show 18 ≤ 19; decide)) (by show 79 < 64 + 19; decide)) (by show 19 ≤ 20; decide)) (by show 79 < 64 + 20; decide)) (by show 20 ≤ 21; decide)) (by show 79 < 64 + 21; decide))
set_option maxRecDepth 100000 in
set_option maxHeartbeats 4000000 in
theorem c_mkRules1 {l : Launch} {g : zG} {d : Nat} {s : zS} (hN : s.2.2.2 = 16) (hC : zcln s) {K : zS → Prop} (h : K (mkRules1 s)) : zCall l g (d + 1) 16 21 M_X3_init [.ref 79] s (zKv K) := by
  refine zCall_of k_X3_init (Nat.le_of_ble_eq_true rfl) (by decide) (fun _ => ?_)
  show zAt l g (d + 1) 16 21 M_X3_init 0 [.ref 79] [] s (zKv K)
  refine z_aload_n (i := 0) dX3_init_0 rfl rfl rfl ?_
  refine z_objInit oi_X3 w_oi w_oc dX3_init_1 (Nat.le_of_ble_eq_true rfl) rfl ?_
  refine z_aload_n (i := 0) dX3_init_4 rfl rfl rfl ?_
  refine z_sipush (v := (400 : Int32)) dX3_init_5 (by decide) rfl ?_
  refine z_newa (atype := .int) (n := 16) (kd := 20) (len := 400) (q := 80) rfl (fun _ _ h9 => h9) w_aI (by decide) (by decide) (by decide) (by decide) (by decide) rfl (by decide) hN (by decide : 64 + 16 = 80) hC (by decide) dX3_init_8 rfl ?_
  refine z_putR f_X3_9 ⟨zCl3, by decide, by decide, (fun _ => by show 79 < 64 + 17; decide)⟩ rfl (by decide) (Or.inr ⟨rfl, rfl, rfl, zin 151 (by decide +kernel) (by decide +kernel)⟩) rfl rfl dX3_init_10 rfl ?_
  refine z_aload_n (i := 0) dX3_init_13 rfl rfl rfl ?_
  refine z_bipush (v := (12 : Int32)) dX3_init_14 (by decide) rfl ?_
  refine z_newa (atype := .int) (n := 17) (kd := 20) (len := 12) (q := 81) rfl (fun _ _ h9 => h9) w_aI (by decide) (by decide) (by decide) (by decide) (by decide) rfl (by decide) rfl (by decide : 64 + 17 = 81) (zcln_R (zcln_N hC (by show s.2.2.2 ≤ 17; rw [hN]; decide)) (by show 79 < 64 + 17; decide)) (by decide) dX3_init_16 rfl ?_
  refine z_putR f_X3_15 ⟨zCl3, by decide, by decide, (fun _ => by show 79 < 64 + 18; decide)⟩ rfl (by decide) (Or.inr ⟨rfl, rfl, rfl, zin 164 (by decide +kernel) (by decide +kernel)⟩) rfl rfl dX3_init_18 rfl ?_
  refine z_aload_n (i := 0) dX3_init_21 rfl rfl rfl ?_
  refine z_bipush (v := (12 : Int32)) dX3_init_22 (by decide) rfl ?_
  refine z_newa (atype := .int) (n := 18) (kd := 20) (len := 12) (q := 82) rfl (fun _ _ h9 => h9) w_aI (by decide) (by decide) (by decide) (by decide) (by decide) rfl (by decide) rfl (by decide : 64 + 18 = 82) (zcln_R (zcln_N (zcln_R (zcln_N hC (by show s.2.2.2 ≤ 17; rw [hN]; decide)) (by show 79 < 64 + 17; decide)) (by show 17 ≤ 18; decide)) (by show 79 < 64 + 18; decide)) (by decide) dX3_init_24 rfl ?_
  refine z_putR f_X3_18 ⟨zCl3, by decide, by decide, (fun _ => by show 79 < 64 + 19; decide)⟩ rfl (by decide) (Or.inr ⟨rfl, rfl, rfl, zin 166 (by decide +kernel) (by decide +kernel)⟩) rfl rfl dX3_init_26 rfl ?_
  refine z_aload_n (i := 0) dX3_init_29 rfl rfl rfl ?_
  refine z_bipush (v := (12 : Int32)) dX3_init_30 (by decide) rfl ?_
  refine z_newa (atype := .int) (n := 19) (kd := 20) (len := 12) (q := 83) rfl (fun _ _ h9 => h9) w_aI (by decide) (by decide) (by decide) (by decide) (by decide) rfl (by decide) rfl (by decide : 64 + 19 = 83) (zcln_R (zcln_N (zcln_R (zcln_N (zcln_R (zcln_N hC (by show s.2.2.2 ≤ 17; rw [hN]; decide)) (by show 79 < 64 + 17; decide)) (by show 17 ≤ 18; decide)) (by show 79 < 64 + 18; decide)) (by show 18 ≤ 19; decide)) (by show 79 < 64 + 19; decide)) (by decide) dX3_init_32 rfl ?_
  refine z_putR f_X3_21 ⟨zCl3, by decide, by decide, (fun _ => by show 79 < 64 + 20; decide)⟩ rfl (by decide) (Or.inr ⟨rfl, rfl, rfl, zin 167 (by decide +kernel) (by decide +kernel)⟩) rfl rfl dX3_init_34 rfl ?_
  refine z_aload_n (i := 0) dX3_init_37 rfl rfl rfl ?_
  refine z_bipush (v := (24 : Int32)) dX3_init_38 (by decide) rfl ?_
  refine z_newa (atype := .int) (n := 20) (kd := 20) (len := 24) (q := 84) rfl (fun _ _ h9 => h9) w_aI (by decide) (by decide) (by decide) (by decide) (by decide) rfl (by decide) rfl (by decide : 64 + 20 = 84) (zcln_R (zcln_N (zcln_R (zcln_N (zcln_R (zcln_N (zcln_R (zcln_N hC (by show s.2.2.2 ≤ 17; rw [hN]; decide)) (by show 79 < 64 + 17; decide)) (by show 17 ≤ 18; decide)) (by show 79 < 64 + 18; decide)) (by show 18 ≤ 19; decide)) (by show 79 < 64 + 19; decide)) (by show 19 ≤ 20; decide)) (by show 79 < 64 + 20; decide)) (by decide) dX3_init_40 rfl ?_
  refine z_putR f_X3_24 ⟨zCl3, by decide, by decide, (fun _ => by show 79 < 64 + 21; decide)⟩ rfl (by decide) (Or.inr ⟨rfl, rfl, rfl, zin 168 (by decide +kernel) (by decide +kernel)⟩) rfl rfl dX3_init_42 rfl ?_
  exact z_ret none (Or.inl ⟨rfl, rfl, dX3_init_45⟩) (fun _ _ => rfl) ⟨rfl, h⟩
def mkRules2 (s : zS) : zS := zRf (zNn (zRf (zNn (zRf (zNn (zRf (zNn (zRf (zNn s 23) 85 0 86) 24) 85 6 87) 25) 85 7 88) 26) 85 8 89) 27) 85 9 90
theorem cl_mkRules2 {s : zS} (hN : s.2.2.2 = 22) (hC : zcln s) : zcln (mkRules2 s) := (zcln_R (zcln_N (zcln_R (zcln_N (zcln_R (zcln_N (zcln_R (zcln_N (zcln_R (zcln_N hC (by show s.2.2.2 ≤ 23; rw [hN]; decide)) (by show 85 < 64 + 23; decide)) (by show 23 ≤ 24; decide)) (by show 85 < 64 + 24; decide)) (by show 24 ≤ 25; decide)) (by show 85 < 64 + 25; decide)) (by show 25 ≤ 26; decide)) (by show 85 < 64 + 26; decide)) (by show 26 ≤ 27; decide)) (by show 85 < 64 + 27; decide))
set_option maxRecDepth 100000 in
set_option maxHeartbeats 4000000 in
theorem c_mkRules2 {l : Launch} {g : zG} {d : Nat} {s : zS} (hN : s.2.2.2 = 22) (hC : zcln s) {K : zS → Prop} (h : K (mkRules2 s)) : zCall l g (d + 1) 22 27 M_X3_init [.ref 85] s (zKv K) := by
  refine zCall_of k_X3_init (Nat.le_of_ble_eq_true rfl) (by decide) (fun _ => ?_)
  show zAt l g (d + 1) 22 27 M_X3_init 0 [.ref 85] [] s (zKv K)
  refine z_aload_n (i := 0) dX3_init_0 rfl rfl rfl ?_
  refine z_objInit oi_X3 w_oi w_oc dX3_init_1 (Nat.le_of_ble_eq_true rfl) rfl ?_
  refine z_aload_n (i := 0) dX3_init_4 rfl rfl rfl ?_
  refine z_sipush (v := (400 : Int32)) dX3_init_5 (by decide) rfl ?_
  refine z_newa (atype := .int) (n := 22) (kd := 20) (len := 400) (q := 86) rfl (fun _ _ h9 => h9) w_aI (by decide) (by decide) (by decide) (by decide) (by decide) rfl (by decide) hN (by decide : 64 + 22 = 86) hC (by decide) dX3_init_8 rfl ?_
  refine z_putR f_X3_9 ⟨zCl3, by decide, by decide, (fun _ => by show 85 < 64 + 23; decide)⟩ rfl (by decide) (Or.inr ⟨rfl, rfl, rfl, zin 151 (by decide +kernel) (by decide +kernel)⟩) rfl rfl dX3_init_10 rfl ?_
  refine z_aload_n (i := 0) dX3_init_13 rfl rfl rfl ?_
  refine z_bipush (v := (12 : Int32)) dX3_init_14 (by decide) rfl ?_
  refine z_newa (atype := .int) (n := 23) (kd := 20) (len := 12) (q := 87) rfl (fun _ _ h9 => h9) w_aI (by decide) (by decide) (by decide) (by decide) (by decide) rfl (by decide) rfl (by decide : 64 + 23 = 87) (zcln_R (zcln_N hC (by show s.2.2.2 ≤ 23; rw [hN]; decide)) (by show 85 < 64 + 23; decide)) (by decide) dX3_init_16 rfl ?_
  refine z_putR f_X3_15 ⟨zCl3, by decide, by decide, (fun _ => by show 85 < 64 + 24; decide)⟩ rfl (by decide) (Or.inr ⟨rfl, rfl, rfl, zin 164 (by decide +kernel) (by decide +kernel)⟩) rfl rfl dX3_init_18 rfl ?_
  refine z_aload_n (i := 0) dX3_init_21 rfl rfl rfl ?_
  refine z_bipush (v := (12 : Int32)) dX3_init_22 (by decide) rfl ?_
  refine z_newa (atype := .int) (n := 24) (kd := 20) (len := 12) (q := 88) rfl (fun _ _ h9 => h9) w_aI (by decide) (by decide) (by decide) (by decide) (by decide) rfl (by decide) rfl (by decide : 64 + 24 = 88) (zcln_R (zcln_N (zcln_R (zcln_N hC (by show s.2.2.2 ≤ 23; rw [hN]; decide)) (by show 85 < 64 + 23; decide)) (by show 23 ≤ 24; decide)) (by show 85 < 64 + 24; decide)) (by decide) dX3_init_24 rfl ?_
  refine z_putR f_X3_18 ⟨zCl3, by decide, by decide, (fun _ => by show 85 < 64 + 25; decide)⟩ rfl (by decide) (Or.inr ⟨rfl, rfl, rfl, zin 166 (by decide +kernel) (by decide +kernel)⟩) rfl rfl dX3_init_26 rfl ?_
  refine z_aload_n (i := 0) dX3_init_29 rfl rfl rfl ?_
  refine z_bipush (v := (12 : Int32)) dX3_init_30 (by decide) rfl ?_
  refine z_newa (atype := .int) (n := 25) (kd := 20) (len := 12) (q := 89) rfl (fun _ _ h9 => h9) w_aI (by decide) (by decide) (by decide) (by decide) (by decide) rfl (by decide) rfl (by decide : 64 + 25 = 89) (zcln_R (zcln_N (zcln_R (zcln_N (zcln_R (zcln_N hC (by show s.2.2.2 ≤ 23; rw [hN]; decide)) (by show 85 < 64 + 23; decide)) (by show 23 ≤ 24; decide)) (by show 85 < 64 + 24; decide)) (by show 24 ≤ 25; decide)) (by show 85 < 64 + 25; decide)) (by decide) dX3_init_32 rfl ?_
  refine z_putR f_X3_21 ⟨zCl3, by decide, by decide, (fun _ => by show 85 < 64 + 26; decide)⟩ rfl (by decide) (Or.inr ⟨rfl, rfl, rfl, zin 167 (by decide +kernel) (by decide +kernel)⟩) rfl rfl dX3_init_34 rfl ?_
  refine z_aload_n (i := 0) dX3_init_37 rfl rfl rfl ?_
  refine z_bipush (v := (24 : Int32)) dX3_init_38 (by decide) rfl ?_
  refine z_newa (atype := .int) (n := 26) (kd := 20) (len := 24) (q := 90) rfl (fun _ _ h9 => h9) w_aI (by decide) (by decide) (by decide) (by decide) (by decide) rfl (by decide) rfl (by decide : 64 + 26 = 90) (zcln_R (zcln_N (zcln_R (zcln_N (zcln_R (zcln_N (zcln_R (zcln_N hC (by show s.2.2.2 ≤ 23; rw [hN]; decide)) (by show 85 < 64 + 23; decide)) (by show 23 ≤ 24; decide)) (by show 85 < 64 + 24; decide)) (by show 24 ≤ 25; decide)) (by show 85 < 64 + 25; decide)) (by show 25 ≤ 26; decide)) (by show 85 < 64 + 26; decide)) (by decide) dX3_init_40 rfl ?_
  refine z_putR f_X3_24 ⟨zCl3, by decide, by decide, (fun _ => by show 85 < 64 + 27; decide)⟩ rfl (by decide) (Or.inr ⟨rfl, rfl, rfl, zin 168 (by decide +kernel) (by decide +kernel)⟩) rfl rfl dX3_init_42 rfl ?_
  exact z_ret none (Or.inl ⟨rfl, rfl, dX3_init_45⟩) (fun _ _ => rfl) ⟨rfl, h⟩
theorem dX6_init_0 : decode cX6_init 0 = .ok (.aload_n 0, 1) := by decide +kernel
theorem dX6_init_1 : decode cX6_init 1 = .ok (.invokespecial 3, 3) := by decide +kernel
theorem dX6_init_4 : decode cX6_init 4 = .ok (.aload_n 0, 1) := by decide +kernel
theorem dX6_init_5 : decode cX6_init 5 = .ok (.iconst 1, 1) := by decide +kernel
theorem dX6_init_6 : decode cX6_init 6 = .ok (.putfield 9, 3) := by decide +kernel
theorem dX6_init_9 : decode cX6_init 9 = .ok (.aload_n 0, 1) := by decide +kernel
theorem dX6_init_10 : decode cX6_init 10 = .ok (.iconst 1, 1) := by decide +kernel
theorem dX6_init_11 : decode cX6_init 11 = .ok (.putfield 15, 3) := by decide +kernel
theorem dX6_init_14 : decode cX6_init 14 = .ok (.return_, 1) := by decide +kernel
theorem dX5_init_0 : decode cX5_init 0 = .ok (.aload_n 0, 1) := by decide +kernel
theorem dX5_init_1 : decode cX5_init 1 = .ok (.invokespecial 3, 3) := by decide +kernel
theorem dX5_init_4 : decode cX5_init 4 = .ok (.return_, 1) := by decide +kernel
def mkThing (o : Nat) (s : zS) : zS := zI (zI s o 8 1) o 10 1
set_option maxRecDepth 100000 in
theorem c_Thing {l : Launch} {g : zG} {d n o : Nat} {s : zS} (hN : s.2.2.2 = n) (ho : zk o = 7 ∧ 64 ≤ o ∧ o < 64 + n) {K : zS → Prop} (h : K (mkThing o s)) : zCall l g (d + 1) n n M_X6_init [.ref o] s (zKv K) := by
  have hi : ∀ s1 : zS, s1.2.2.2 = n → zIs s1 n 6 o := fun s1 h1 => ⟨zCl6, ho.1, ho.2.1, fun _ => by rw [h1]; exact ho.2.2⟩
  refine zCall_of k_X6_init (Nat.le_of_ble_eq_true rfl) (Nat.le_refl _) (fun _ => ?_)
  show zAt l g (d + 1) n n M_X6_init 0 [.ref o] [] s (zKv K)
  refine z_aload_n (i := 0) dX6_init_0 rfl rfl rfl ?_
  refine z_objInit oi_X6 w_oi w_oc dX6_init_1 (Nat.le_of_ble_eq_true rfl) rfl ?_
  refine z_aload_n (i := 0) dX6_init_4 rfl rfl rfl ?_
  refine z_iconst (v := 1) dX6_init_5 (by decide) rfl ?_
  refine z_putI f_X6_9 (hi s hN) rfl (Or.inl rfl) rfl rfl dX6_init_6 rfl ?_
  refine z_aload_n (i := 0) dX6_init_9 rfl rfl rfl ?_
  refine z_iconst (v := 1) dX6_init_10 (by decide) rfl ?_
  refine z_putI f_X6_15 (hi _ hN) rfl (Or.inl rfl) rfl rfl dX6_init_11 rfl ?_
  exact z_ret none (Or.inl ⟨rfl, rfl, dX6_init_14⟩) (fun _ _ => hN) ⟨rfl, h⟩
theorem c_Telling {l : Launch} {g : zG} {d n o : Nat} {s : zS} (hN : s.2.2.2 = n) {K : zS → Prop} (h : K s) : zCall l g (d + 1) n n M_X5_init [.ref o] s (zKv K) := by
  refine zCall_of k_X5_init (Nat.le_of_ble_eq_true rfl) (Nat.le_refl _) (fun _ => ?_)
  show zAt l g (d + 1) n n M_X5_init 0 [.ref o] [] s (zKv K)
  refine z_aload_n (i := 0) dX5_init_0 rfl rfl rfl ?_
  refine z_objInit oi_X5 w_oi w_oc dX5_init_1 (Nat.le_of_ble_eq_true rfl) rfl ?_
  exact z_ret none (Or.inl ⟨rfl, rfl, dX5_init_4⟩) (fun _ _ => hN) ⟨rfl, h⟩
theorem dX7_init_0 : decode cX7_init 0 = .ok (.aload_n 0, 1) := by decide +kernel
theorem dX7_init_1 : decode cX7_init 1 = .ok (.invokespecial 3, 3) := by decide +kernel
theorem dX7_init_4 : decode cX7_init 4 = .ok (.aload_n 0, 1) := by decide +kernel
theorem dX7_init_5 : decode cX7_init 5 = .ok (.new 9, 3) := by decide +kernel
theorem dX7_init_8 : decode cX7_init 8 = .ok (.dup, 1) := by decide +kernel
theorem dX7_init_9 : decode cX7_init 9 = .ok (.invokespecial 11, 3) := by decide +kernel
theorem dX7_init_12 : decode cX7_init 12 = .ok (.putfield 12, 3) := by decide +kernel
theorem dX7_init_15 : decode cX7_init 15 = .ok (.aload_n 0, 1) := by decide +kernel
theorem dX7_init_16 : decode cX7_init 16 = .ok (.new 16, 3) := by decide +kernel
theorem dX7_init_19 : decode cX7_init 19 = .ok (.dup, 1) := by decide +kernel
theorem dX7_init_20 : decode cX7_init 20 = .ok (.aload_n 0, 1) := by decide +kernel
theorem dX7_init_21 : decode cX7_init 21 = .ok (.getfield 12, 3) := by decide +kernel
theorem dX7_init_24 : decode cX7_init 24 = .ok (.invokespecial 18, 3) := by decide +kernel
theorem dX7_init_27 : decode cX7_init 27 = .ok (.putfield 21, 3) := by decide +kernel
theorem dX7_init_30 : decode cX7_init 30 = .ok (.aload_n 0, 1) := by decide +kernel
theorem dX7_init_31 : decode cX7_init 31 = .ok (.bipush 20, 2) := by decide +kernel
theorem dX7_init_33 : decode cX7_init 33 = .ok (.newarray .int, 2) := by decide +kernel
theorem dX7_init_35 : decode cX7_init 35 = .ok (.putfield 25, 3) := by decide +kernel
theorem dX7_init_38 : decode cX7_init 38 = .ok (.aload_n 0, 1) := by decide +kernel
theorem dX7_init_39 : decode cX7_init 39 = .ok (.bipush 12, 2) := by decide +kernel
theorem dX7_init_41 : decode cX7_init 41 = .ok (.anewarray 29, 3) := by decide +kernel
theorem dX7_init_44 : decode cX7_init 44 = .ok (.putfield 31, 3) := by decide +kernel
theorem dX7_init_47 : decode cX7_init 47 = .ok (.aload_n 0, 1) := by decide +kernel
theorem dX7_init_48 : decode cX7_init 48 = .ok (.bipush 60, 2) := by decide +kernel
theorem dX7_init_50 : decode cX7_init 50 = .ok (.anewarray 35, 3) := by decide +kernel
theorem dX7_init_53 : decode cX7_init 53 = .ok (.putfield 37, 3) := by decide +kernel
theorem dX7_init_56 : decode cX7_init 56 = .ok (.aload_n 0, 1) := by decide +kernel
theorem dX7_init_57 : decode cX7_init 57 = .ok (.bipush 8, 2) := by decide +kernel
theorem dX7_init_59 : decode cX7_init 59 = .ok (.putfield 41, 3) := by decide +kernel
theorem dX7_init_62 : decode cX7_init 62 = .ok (.aload_n 0, 1) := by decide +kernel
theorem dX7_init_63 : decode cX7_init 63 = .ok (.bipush 20, 2) := by decide +kernel
theorem dX7_init_65 : decode cX7_init 65 = .ok (.putfield 45, 3) := by decide +kernel
theorem dX7_init_68 : decode cX7_init 68 = .ok (.aload_n 0, 1) := by decide +kernel
theorem dX7_init_69 : decode cX7_init 69 = .ok (.iconst 1, 1) := by decide +kernel
theorem dX7_init_70 : decode cX7_init 70 = .ok (.putfield 48, 3) := by decide +kernel
theorem dX7_init_73 : decode cX7_init 73 = .ok (.aload_n 0, 1) := by decide +kernel
theorem dX7_init_74 : decode cX7_init 74 = .ok (.bipush 12, 2) := by decide +kernel
theorem dX7_init_76 : decode cX7_init 76 = .ok (.newarray .int, 2) := by decide +kernel
theorem dX7_init_78 : decode cX7_init 78 = .ok (.putfield 51, 3) := by decide +kernel
theorem dX7_init_81 : decode cX7_init 81 = .ok (.aload_n 0, 1) := by decide +kernel
theorem dX7_init_82 : decode cX7_init 82 = .ok (.bipush 60, 2) := by decide +kernel
theorem dX7_init_84 : decode cX7_init 84 = .ok (.newarray .int, 2) := by decide +kernel
theorem dX7_init_86 : decode cX7_init 86 = .ok (.putfield 54, 3) := by decide +kernel
theorem dX7_init_89 : decode cX7_init 89 = .ok (.aload_n 0, 1) := by decide +kernel
theorem dX7_init_90 : decode cX7_init 90 = .ok (.new 57, 3) := by decide +kernel
theorem dX7_init_93 : decode cX7_init 93 = .ok (.dup, 1) := by decide +kernel
theorem dX7_init_94 : decode cX7_init 94 = .ok (.invokespecial 59, 3) := by decide +kernel
theorem dX7_init_97 : decode cX7_init 97 = .ok (.putfield 60, 3) := by decide +kernel
theorem dX7_init_100 : decode cX7_init 100 = .ok (.aload_n 0, 1) := by decide +kernel
theorem dX7_init_101 : decode cX7_init 101 = .ok (.new 64, 3) := by decide +kernel
theorem dX7_init_104 : decode cX7_init 104 = .ok (.dup, 1) := by decide +kernel
theorem dX7_init_105 : decode cX7_init 105 = .ok (.invokespecial 66, 3) := by decide +kernel
theorem dX7_init_108 : decode cX7_init 108 = .ok (.putfield 67, 3) := by decide +kernel
theorem dX7_init_111 : decode cX7_init 111 = .ok (.aload_n 0, 1) := by decide +kernel
theorem dX7_init_112 : decode cX7_init 112 = .ok (.new 71, 3) := by decide +kernel
theorem dX7_init_115 : decode cX7_init 115 = .ok (.dup, 1) := by decide +kernel
theorem dX7_init_116 : decode cX7_init 116 = .ok (.invokespecial 73, 3) := by decide +kernel
theorem dX7_init_119 : decode cX7_init 119 = .ok (.putfield 74, 3) := by decide +kernel
theorem dX7_init_122 : decode cX7_init 122 = .ok (.aload_n 0, 1) := by decide +kernel
theorem dX7_init_123 : decode cX7_init 123 = .ok (.new 71, 3) := by decide +kernel
theorem dX7_init_126 : decode cX7_init 126 = .ok (.dup, 1) := by decide +kernel
theorem dX7_init_127 : decode cX7_init 127 = .ok (.invokespecial 73, 3) := by decide +kernel
theorem dX7_init_130 : decode cX7_init 130 = .ok (.putfield 78, 3) := by decide +kernel
theorem dX7_init_133 : decode cX7_init 133 = .ok (.aload_n 0, 1) := by decide +kernel
theorem dX7_init_134 : decode cX7_init 134 = .ok (.bipush 7, 2) := by decide +kernel
theorem dX7_init_136 : decode cX7_init 136 = .ok (.newarray .int, 2) := by decide +kernel
theorem dX7_init_138 : decode cX7_init 138 = .ok (.putfield 81, 3) := by decide +kernel
theorem dX7_init_141 : decode cX7_init 141 = .ok (.iconst 0, 1) := by decide +kernel
theorem dX7_init_142 : decode cX7_init 142 = .ok (.istore_n 1, 1) := by decide +kernel
theorem dX7_init_143 : decode cX7_init 143 = .ok (.iload_n 1, 1) := by decide +kernel
theorem dX7_init_144 : decode cX7_init 144 = .ok (.bipush 12, 2) := by decide +kernel
theorem dX7_init_146 : decode cX7_init 146 = .ok (.if_icmp .ge 22, 3) := by decide +kernel
theorem dX7_init_149 : decode cX7_init 149 = .ok (.aload_n 0, 1) := by decide +kernel
theorem dX7_init_150 : decode cX7_init 150 = .ok (.getfield 31, 3) := by decide +kernel
theorem dX7_init_153 : decode cX7_init 153 = .ok (.iload_n 1, 1) := by decide +kernel
theorem dX7_init_154 : decode cX7_init 154 = .ok (.new 29, 3) := by decide +kernel
theorem dX7_init_157 : decode cX7_init 157 = .ok (.dup, 1) := by decide +kernel
theorem dX7_init_158 : decode cX7_init 158 = .ok (.invokespecial 84, 3) := by decide +kernel
theorem dX7_init_161 : decode cX7_init 161 = .ok (.aastore, 1) := by decide +kernel
theorem dX7_init_162 : decode cX7_init 162 = .ok (.iinc 1 1, 3) := by decide +kernel
theorem dX7_init_165 : decode cX7_init 165 = .ok (.goto (-22), 3) := by decide +kernel
theorem dX7_init_168 : decode cX7_init 168 = .ok (.iconst 0, 1) := by decide +kernel
theorem dX7_init_169 : decode cX7_init 169 = .ok (.istore_n 1, 1) := by decide +kernel
theorem dX7_init_170 : decode cX7_init 170 = .ok (.iload_n 1, 1) := by decide +kernel
theorem dX7_init_171 : decode cX7_init 171 = .ok (.bipush 60, 2) := by decide +kernel
theorem dX7_init_173 : decode cX7_init 173 = .ok (.if_icmp .ge 22, 3) := by decide +kernel
theorem dX7_init_176 : decode cX7_init 176 = .ok (.aload_n 0, 1) := by decide +kernel
theorem dX7_init_177 : decode cX7_init 177 = .ok (.getfield 37, 3) := by decide +kernel
theorem dX7_init_180 : decode cX7_init 180 = .ok (.iload_n 1, 1) := by decide +kernel
theorem dX7_init_181 : decode cX7_init 181 = .ok (.new 35, 3) := by decide +kernel
theorem dX7_init_184 : decode cX7_init 184 = .ok (.dup, 1) := by decide +kernel
theorem dX7_init_185 : decode cX7_init 185 = .ok (.invokespecial 85, 3) := by decide +kernel
theorem dX7_init_188 : decode cX7_init 188 = .ok (.aastore, 1) := by decide +kernel
theorem dX7_init_189 : decode cX7_init 189 = .ok (.iinc 1 1, 3) := by decide +kernel
theorem dX7_init_192 : decode cX7_init 192 = .ok (.goto (-22), 3) := by decide +kernel
theorem dX7_init_195 : decode cX7_init 195 = .ok (.return_, 1) := by decide +kernel
def mkX0 (s : zS) : zS := zRf (zNn (zRf (mkRules2 (zNn (zRf (mkRules1 (zNn (zRf (mkReader (zNn (zRf (mkCross (zNn (zRf (zNn (zRf (zNn (zI (zI (zI (zRf (zNn (zRf (zNn (zRf (zNn (zRf (mkSight (zNn (zRf (mkLand (zNn s 2)) 64 0 65) 5)) 64 1 68) 6) 64 2 69) 7) 64 4 70) 8) 64 6 71) 64 8 (8 : Int32)) 64 9 (20 : Int32)) 64 10 (1 : Int32)) 9) 64 11 72) 10) 64 12 73) 11)) 64 13 74) 12)) 64 14 75) 16)) 64 15 79) 22)) 64 16 85) 28) 64 17 91
theorem cl_mkX0 {s : zS} (hN : s.2.2.2 = 1) (hC : zcln s) : zcln (mkX0 s) := (zcln_R (zcln_N (zcln_R (cl_mkRules2 rfl (zcln_N (zcln_R (cl_mkRules1 rfl (zcln_N (zcln_R (cl_mkReader rfl (zcln_N (zcln_R (cl_mkCross rfl (zcln_N (zcln_R (zcln_N (zcln_R (zcln_N (zcln_I (zcln_I (zcln_I (zcln_R (zcln_N (zcln_R (zcln_N (zcln_R (zcln_N (zcln_R (cl_mkSight rfl (zcln_N (zcln_R (cl_mkLand rfl (zcln_N hC (by show s.2.2.2 ≤ 2; rw [hN]; decide))) (by show 64 < 64 + 4; decide)) (by show 4 ≤ 5; decide))) (by show 64 < 64 + 5; decide)) (by show 5 ≤ 6; decide)) (by show 64 < 64 + 6; decide)) (by show 6 ≤ 7; decide)) (by show 64 < 64 + 7; decide)) (by show 7 ≤ 8; decide)) (by show 64 < 64 + 8; decide)) (by show 64 < 64 + 8; decide)) (by show 64 < 64 + 8; decide)) (by show 64 < 64 + 8; decide)) (by show 8 ≤ 9; decide)) (by show 64 < 64 + 9; decide)) (by show 9 ≤ 10; decide)) (by show 64 < 64 + 10; decide)) (by show 10 ≤ 11; decide))) (by show 64 < 64 + 11; decide)) (by show 11 ≤ 12; decide))) (by show 64 < 64 + 15; decide)) (by show 15 ≤ 16; decide))) (by show 64 < 64 + 21; decide)) (by show 21 ≤ 22; decide))) (by show 64 < 64 + 27; decide)) (by show 27 ≤ 28; decide)) (by show 64 < 64 + 28; decide))
set_option maxRecDepth 100000 in
set_option maxHeartbeats 8000000 in
theorem c_mkX0 {l : Launch} {g : zG} {d : Nat} {s : zS} (hN : s.2.2.2 = 1) (hC : zcln s) {K : Option Value → zS → Prop} (h : zAt l g (d + 3) 1 100 M_X7_init 143 [.ref 64, .int 0] [] (mkX0 s) K) : zAt l g (d + 3) 1 100 M_X7_init 0 [.ref 64, zJ] [] s K := by
  refine z_aload_n (i := 0) dX7_init_0 rfl rfl rfl ?_
  refine z_objInit oi_X7 w_oi w_oc dX7_init_1 (Nat.le_of_ble_eq_true rfl) rfl ?_
  refine z_aload_n (i := 0) dX7_init_4 rfl rfl rfl ?_
  refine z_new (n := 1) (q := 65) (c := 1) zCl1 cl_X7_9 in_1 ii_1 hN (by decide : 64 + 1 = 65) (by decide) hC (by decide) dX7_init_5 rfl ?_
  refine z_dup dX7_init_8 rfl rfl ?_
  refine z_callI (y0 := 2) (y1 := 4) (as := []) k_X1_init rfl m_X7_11 rfl (c_mkLand rfl (zcln_N hC (by show s.2.2.2 ≤ 2; rw [hN]; decide)) (K := fun s1 => s1 = mkLand (zNn s 2)) rfl) rfl (Nat.le_of_ble_eq_true rfl) dX7_init_9 (fun _ _ => ⟨rfl, by decide, by decide⟩) rfl ?_
  rintro v _ ⟨rfl, rfl⟩
  show zAt l g _ 1 100 M_X7_init 12 [.ref 64, zJ] [.ref 65, .ref 64] _ _
  refine z_putR f_X7_12 ⟨zCl7, by decide, by decide, (fun _ => by show 64 < 64 + 4; decide)⟩ rfl (by decide) (Or.inr ⟨rfl, rfl, rfl, zin 314 (by decide +kernel) (by decide +kernel)⟩) rfl rfl dX7_init_12 rfl ?_
  refine z_aload_n (i := 0) dX7_init_15 rfl rfl rfl ?_
  refine z_new (n := 4) (q := 68) (c := 4) zCl4 cl_X7_16 in_4 ii_4 rfl (by decide : 64 + 4 = 68) (by decide) (zcln_R (cl_mkLand rfl (zcln_N hC (by show s.2.2.2 ≤ 2; rw [hN]; decide))) (by show 64 < 64 + 4; decide)) (by decide) dX7_init_16 rfl ?_
  refine z_dup dX7_init_19 rfl rfl ?_
  refine z_aload_n (i := 0) dX7_init_20 rfl rfl rfl ?_
  refine z_getR (q := 65) f_X7_12 ⟨zCl7, by decide, by decide, (fun _ => by show 64 < 64 + 5; decide)⟩ rfl (by rfl) (by decide) dX7_init_21 rfl ?_
  refine z_callI (y0 := 5) (y1 := 5) (as := [.ref 65]) k_X4_init rfl m_X7_18 rfl (c_mkSight rfl (zcln_N (zcln_R (cl_mkLand rfl (zcln_N hC (by show s.2.2.2 ≤ 2; rw [hN]; decide))) (by show 64 < 64 + 4; decide)) (by show 4 ≤ 5; decide)) (K := fun s1 => s1 = mkSight (zNn (zRf (mkLand (zNn s 2)) 64 0 65) 5)) rfl) rfl (Nat.le_of_ble_eq_true rfl) dX7_init_24 (fun _ _ => ⟨rfl, by decide, by decide⟩) rfl ?_
  rintro v _ ⟨rfl, rfl⟩
  show zAt l g _ 1 100 M_X7_init 27 [.ref 64, zJ] [.ref 68, .ref 64] _ _
  refine z_putR f_X7_21 ⟨zCl7, by decide, by decide, (fun _ => by show 64 < 64 + 5; decide)⟩ rfl (by decide) (Or.inr ⟨rfl, rfl, rfl, zin 315 (by decide +kernel) (by decide +kernel)⟩) rfl rfl dX7_init_27 rfl ?_
  refine z_aload_n (i := 0) dX7_init_30 rfl rfl rfl ?_
  refine z_bipush (v := (20 : Int32)) dX7_init_31 (by decide) rfl ?_
  refine z_newa (atype := .int) (n := 5) (kd := 20) (len := 20) (q := 69) rfl (fun _ _ h9 => h9) w_aI (by decide) (by decide) (by decide) (by decide) (by decide) rfl (by decide) rfl (by decide : 64 + 5 = 69) (zcln_R (cl_mkSight rfl (zcln_N (zcln_R (cl_mkLand rfl (zcln_N hC (by show s.2.2.2 ≤ 2; rw [hN]; decide))) (by show 64 < 64 + 4; decide)) (by show 4 ≤ 5; decide))) (by show 64 < 64 + 5; decide)) (by decide) dX7_init_33 rfl ?_
  refine z_putR f_X7_25 ⟨zCl7, by decide, by decide, (fun _ => by show 64 < 64 + 6; decide)⟩ rfl (by decide) (Or.inr ⟨rfl, rfl, rfl, zin 316 (by decide +kernel) (by decide +kernel)⟩) rfl rfl dX7_init_35 rfl ?_
  refine z_aload_n (i := 0) dX7_init_38 rfl rfl rfl ?_
  refine z_bipush (v := (12 : Int32)) dX7_init_39 (by decide) rfl ?_
  refine z_anew (n := 6) (kd := 23) (len := 12) (q := 70) rfl (fun _ h => h.1) cl_X7_29 (by decide) (by decide) (by decide) (by decide) (by decide) (by decide) rfl (by decide : 64 + 6 = 70) (zcln_R (zcln_N (zcln_R (cl_mkSight rfl (zcln_N (zcln_R (cl_mkLand rfl (zcln_N hC (by show s.2.2.2 ≤ 2; rw [hN]; decide))) (by show 64 < 64 + 4; decide)) (by show 4 ≤ 5; decide))) (by show 64 < 64 + 5; decide)) (by show 5 ≤ 6; decide)) (by show 64 < 64 + 6; decide)) (by decide) dX7_init_41 rfl ?_
  refine z_putR f_X7_31 ⟨zCl7, by decide, by decide, (fun _ => by show 64 < 64 + 7; decide)⟩ rfl (by decide) (Or.inr ⟨rfl, rfl, rfl, zin 318 (by decide +kernel) (by decide +kernel)⟩) rfl rfl dX7_init_44 rfl ?_
  refine z_aload_n (i := 0) dX7_init_47 rfl rfl rfl ?_
  refine z_bipush (v := (60 : Int32)) dX7_init_48 (by decide) rfl ?_
  refine z_anew (n := 7) (kd := 24) (len := 60) (q := 71) rfl (fun _ h => h.2.1) cl_X7_35 (by decide) (by decide) (by decide) (by decide) (by decide) (by decide) rfl (by decide : 64 + 7 = 71) (zcln_R (zcln_N (zcln_R (zcln_N (zcln_R (cl_mkSight rfl (zcln_N (zcln_R (cl_mkLand rfl (zcln_N hC (by show s.2.2.2 ≤ 2; rw [hN]; decide))) (by show 64 < 64 + 4; decide)) (by show 4 ≤ 5; decide))) (by show 64 < 64 + 5; decide)) (by show 5 ≤ 6; decide)) (by show 64 < 64 + 6; decide)) (by show 6 ≤ 7; decide)) (by show 64 < 64 + 7; decide)) (by decide) dX7_init_50 rfl ?_
  refine z_putR f_X7_37 ⟨zCl7, by decide, by decide, (fun _ => by show 64 < 64 + 8; decide)⟩ rfl (by decide) (Or.inr ⟨rfl, rfl, rfl, zin 320 (by decide +kernel) (by decide +kernel)⟩) rfl rfl dX7_init_53 rfl ?_
  refine z_aload_n (i := 0) dX7_init_56 rfl rfl rfl ?_
  refine z_bipush (v := (8 : Int32)) dX7_init_57 (by decide) rfl ?_
  refine z_putI f_X7_41 ⟨zCl7, by decide, by decide, (fun _ => by show 64 < 64 + 8; decide)⟩ rfl (Or.inl rfl) rfl rfl dX7_init_59 rfl ?_
  refine z_aload_n (i := 0) dX7_init_62 rfl rfl rfl ?_
  refine z_bipush (v := (20 : Int32)) dX7_init_63 (by decide) rfl ?_
  refine z_putI f_X7_45 ⟨zCl7, by decide, by decide, (fun _ => by show 64 < 64 + 8; decide)⟩ rfl (Or.inl rfl) rfl rfl dX7_init_65 rfl ?_
  refine z_aload_n (i := 0) dX7_init_68 rfl rfl rfl ?_
  refine z_iconst (v := (1 : Int32)) dX7_init_69 (by decide) rfl ?_
  refine z_putI f_X7_48 ⟨zCl7, by decide, by decide, (fun _ => by show 64 < 64 + 8; decide)⟩ rfl (Or.inl rfl) rfl rfl dX7_init_70 rfl ?_
  refine z_aload_n (i := 0) dX7_init_73 rfl rfl rfl ?_
  refine z_bipush (v := (12 : Int32)) dX7_init_74 (by decide) rfl ?_
  refine z_newa (atype := .int) (n := 8) (kd := 20) (len := 12) (q := 72) rfl (fun _ _ h9 => h9) w_aI (by decide) (by decide) (by decide) (by decide) (by decide) rfl (by decide) rfl (by decide : 64 + 8 = 72) (zcln_I (zcln_I (zcln_I (zcln_R (zcln_N (zcln_R (zcln_N (zcln_R (zcln_N (zcln_R (cl_mkSight rfl (zcln_N (zcln_R (cl_mkLand rfl (zcln_N hC (by show s.2.2.2 ≤ 2; rw [hN]; decide))) (by show 64 < 64 + 4; decide)) (by show 4 ≤ 5; decide))) (by show 64 < 64 + 5; decide)) (by show 5 ≤ 6; decide)) (by show 64 < 64 + 6; decide)) (by show 6 ≤ 7; decide)) (by show 64 < 64 + 7; decide)) (by show 7 ≤ 8; decide)) (by show 64 < 64 + 8; decide)) (by show 64 < 64 + 8; decide)) (by show 64 < 64 + 8; decide)) (by show 64 < 64 + 8; decide)) (by decide) dX7_init_76 rfl ?_
  refine z_putR f_X7_51 ⟨zCl7, by decide, by decide, (fun _ => by show 64 < 64 + 9; decide)⟩ rfl (by decide) (Or.inr ⟨rfl, rfl, rfl, zin 325 (by decide +kernel) (by decide +kernel)⟩) rfl rfl dX7_init_78 rfl ?_
  refine z_aload_n (i := 0) dX7_init_81 rfl rfl rfl ?_
  refine z_bipush (v := (60 : Int32)) dX7_init_82 (by decide) rfl ?_
  refine z_newa (atype := .int) (n := 9) (kd := 20) (len := 60) (q := 73) rfl (fun _ _ h9 => h9) w_aI (by decide) (by decide) (by decide) (by decide) (by decide) rfl (by decide) rfl (by decide : 64 + 9 = 73) (zcln_R (zcln_N (zcln_I (zcln_I (zcln_I (zcln_R (zcln_N (zcln_R (zcln_N (zcln_R (zcln_N (zcln_R (cl_mkSight rfl (zcln_N (zcln_R (cl_mkLand rfl (zcln_N hC (by show s.2.2.2 ≤ 2; rw [hN]; decide))) (by show 64 < 64 + 4; decide)) (by show 4 ≤ 5; decide))) (by show 64 < 64 + 5; decide)) (by show 5 ≤ 6; decide)) (by show 64 < 64 + 6; decide)) (by show 6 ≤ 7; decide)) (by show 64 < 64 + 7; decide)) (by show 7 ≤ 8; decide)) (by show 64 < 64 + 8; decide)) (by show 64 < 64 + 8; decide)) (by show 64 < 64 + 8; decide)) (by show 64 < 64 + 8; decide)) (by show 8 ≤ 9; decide)) (by show 64 < 64 + 9; decide)) (by decide) dX7_init_84 rfl ?_
  refine z_putR f_X7_54 ⟨zCl7, by decide, by decide, (fun _ => by show 64 < 64 + 10; decide)⟩ rfl (by decide) (Or.inr ⟨rfl, rfl, rfl, zin 326 (by decide +kernel) (by decide +kernel)⟩) rfl rfl dX7_init_86 rfl ?_
  refine z_aload_n (i := 0) dX7_init_89 rfl rfl rfl ?_
  refine z_new (n := 10) (q := 74) (c := 0) zCl0 cl_X7_57 in_0 ii_0 rfl (by decide : 64 + 10 = 74) (by decide) (zcln_R (zcln_N (zcln_R (zcln_N (zcln_I (zcln_I (zcln_I (zcln_R (zcln_N (zcln_R (zcln_N (zcln_R (zcln_N (zcln_R (cl_mkSight rfl (zcln_N (zcln_R (cl_mkLand rfl (zcln_N hC (by show s.2.2.2 ≤ 2; rw [hN]; decide))) (by show 64 < 64 + 4; decide)) (by show 4 ≤ 5; decide))) (by show 64 < 64 + 5; decide)) (by show 5 ≤ 6; decide)) (by show 64 < 64 + 6; decide)) (by show 6 ≤ 7; decide)) (by show 64 < 64 + 7; decide)) (by show 7 ≤ 8; decide)) (by show 64 < 64 + 8; decide)) (by show 64 < 64 + 8; decide)) (by show 64 < 64 + 8; decide)) (by show 64 < 64 + 8; decide)) (by show 8 ≤ 9; decide)) (by show 64 < 64 + 9; decide)) (by show 9 ≤ 10; decide)) (by show 64 < 64 + 10; decide)) (by decide) dX7_init_90 rfl ?_
  refine z_dup dX7_init_93 rfl rfl ?_
  refine z_callIN (y0 := 11) (y1 := 11) (as := []) k_X0_init rfl m_X7_59 rfl (c_mkCross rfl (zcln_N (zcln_R (zcln_N (zcln_R (zcln_N (zcln_I (zcln_I (zcln_I (zcln_R (zcln_N (zcln_R (zcln_N (zcln_R (zcln_N (zcln_R (cl_mkSight rfl (zcln_N (zcln_R (cl_mkLand rfl (zcln_N hC (by show s.2.2.2 ≤ 2; rw [hN]; decide))) (by show 64 < 64 + 4; decide)) (by show 4 ≤ 5; decide))) (by show 64 < 64 + 5; decide)) (by show 5 ≤ 6; decide)) (by show 64 < 64 + 6; decide)) (by show 6 ≤ 7; decide)) (by show 64 < 64 + 7; decide)) (by show 7 ≤ 8; decide)) (by show 64 < 64 + 8; decide)) (by show 64 < 64 + 8; decide)) (by show 64 < 64 + 8; decide)) (by show 64 < 64 + 8; decide)) (by show 8 ≤ 9; decide)) (by show 64 < 64 + 9; decide)) (by show 9 ≤ 10; decide)) (by show 64 < 64 + 10; decide)) (by show 10 ≤ 11; decide)) (K := fun s1 => s1 = mkCross (zNn (zRf (zNn (zRf (zNn (zI (zI (zI (zRf (zNn (zRf (zNn (zRf (zNn (zRf (mkSight (zNn (zRf (mkLand (zNn s 2)) 64 0 65) 5)) 64 1 68) 6) 64 2 69) 7) 64 4 70) 8) 64 6 71) 64 8 (8 : Int32)) 64 9 (20 : Int32)) 64 10 (1 : Int32)) 9) 64 11 72) 10) 64 12 73) 11)) rfl) rfl (Nat.le_of_ble_eq_true rfl) dX7_init_94 (fun _ _ => ⟨rfl, by decide, by decide⟩) rfl ?_
  rintro v _ ⟨rfl, rfl⟩
  show zAt l g _ 1 100 M_X7_init 97 [.ref 64, zJ] [.ref 74, .ref 64] _ _
  refine z_putR f_X7_60 ⟨zCl7, by decide, by decide, (fun _ => by show 64 < 64 + 11; decide)⟩ rfl (by decide) (Or.inr ⟨rfl, rfl, rfl, zin 327 (by decide +kernel) (by decide +kernel)⟩) rfl rfl dX7_init_97 rfl ?_
  refine z_aload_n (i := 0) dX7_init_100 rfl rfl rfl ?_
  refine z_new (n := 11) (q := 75) (c := 2) zCl2 cl_X7_64 in_2 ii_2 rfl (by decide : 64 + 11 = 75) (by decide) (zcln_R (cl_mkCross rfl (zcln_N (zcln_R (zcln_N (zcln_R (zcln_N (zcln_I (zcln_I (zcln_I (zcln_R (zcln_N (zcln_R (zcln_N (zcln_R (zcln_N (zcln_R (cl_mkSight rfl (zcln_N (zcln_R (cl_mkLand rfl (zcln_N hC (by show s.2.2.2 ≤ 2; rw [hN]; decide))) (by show 64 < 64 + 4; decide)) (by show 4 ≤ 5; decide))) (by show 64 < 64 + 5; decide)) (by show 5 ≤ 6; decide)) (by show 64 < 64 + 6; decide)) (by show 6 ≤ 7; decide)) (by show 64 < 64 + 7; decide)) (by show 7 ≤ 8; decide)) (by show 64 < 64 + 8; decide)) (by show 64 < 64 + 8; decide)) (by show 64 < 64 + 8; decide)) (by show 64 < 64 + 8; decide)) (by show 8 ≤ 9; decide)) (by show 64 < 64 + 9; decide)) (by show 9 ≤ 10; decide)) (by show 64 < 64 + 10; decide)) (by show 10 ≤ 11; decide))) (by show 64 < 64 + 11; decide)) (by decide) dX7_init_101 rfl ?_
  refine z_dup dX7_init_104 rfl rfl ?_
  refine z_callIN (y0 := 12) (y1 := 15) (as := []) k_X2_init rfl m_X7_66 rfl (c_mkReader rfl (zcln_N (zcln_R (cl_mkCross rfl (zcln_N (zcln_R (zcln_N (zcln_R (zcln_N (zcln_I (zcln_I (zcln_I (zcln_R (zcln_N (zcln_R (zcln_N (zcln_R (zcln_N (zcln_R (cl_mkSight rfl (zcln_N (zcln_R (cl_mkLand rfl (zcln_N hC (by show s.2.2.2 ≤ 2; rw [hN]; decide))) (by show 64 < 64 + 4; decide)) (by show 4 ≤ 5; decide))) (by show 64 < 64 + 5; decide)) (by show 5 ≤ 6; decide)) (by show 64 < 64 + 6; decide)) (by show 6 ≤ 7; decide)) (by show 64 < 64 + 7; decide)) (by show 7 ≤ 8; decide)) (by show 64 < 64 + 8; decide)) (by show 64 < 64 + 8; decide)) (by show 64 < 64 + 8; decide)) (by show 64 < 64 + 8; decide)) (by show 8 ≤ 9; decide)) (by show 64 < 64 + 9; decide)) (by show 9 ≤ 10; decide)) (by show 64 < 64 + 10; decide)) (by show 10 ≤ 11; decide))) (by show 64 < 64 + 11; decide)) (by show 11 ≤ 12; decide)) (K := fun s1 => s1 = mkReader (zNn (zRf (mkCross (zNn (zRf (zNn (zRf (zNn (zI (zI (zI (zRf (zNn (zRf (zNn (zRf (zNn (zRf (mkSight (zNn (zRf (mkLand (zNn s 2)) 64 0 65) 5)) 64 1 68) 6) 64 2 69) 7) 64 4 70) 8) 64 6 71) 64 8 (8 : Int32)) 64 9 (20 : Int32)) 64 10 (1 : Int32)) 9) 64 11 72) 10) 64 12 73) 11)) 64 13 74) 12)) rfl) rfl (Nat.le_of_ble_eq_true rfl) dX7_init_105 (fun _ _ => ⟨rfl, by decide, by decide⟩) rfl ?_
  rintro v _ ⟨rfl, rfl⟩
  show zAt l g _ 1 100 M_X7_init 108 [.ref 64, zJ] [.ref 75, .ref 64] _ _
  refine z_putR f_X7_67 ⟨zCl7, by decide, by decide, (fun _ => by show 64 < 64 + 15; decide)⟩ rfl (by decide) (Or.inr ⟨rfl, rfl, rfl, zin 328 (by decide +kernel) (by decide +kernel)⟩) rfl rfl dX7_init_108 rfl ?_
  refine z_aload_n (i := 0) dX7_init_111 rfl rfl rfl ?_
  refine z_new (n := 15) (q := 79) (c := 3) zCl3 cl_X7_71 in_3 ii_3 rfl (by decide : 64 + 15 = 79) (by decide) (zcln_R (cl_mkReader rfl (zcln_N (zcln_R (cl_mkCross rfl (zcln_N (zcln_R (zcln_N (zcln_R (zcln_N (zcln_I (zcln_I (zcln_I (zcln_R (zcln_N (zcln_R (zcln_N (zcln_R (zcln_N (zcln_R (cl_mkSight rfl (zcln_N (zcln_R (cl_mkLand rfl (zcln_N hC (by show s.2.2.2 ≤ 2; rw [hN]; decide))) (by show 64 < 64 + 4; decide)) (by show 4 ≤ 5; decide))) (by show 64 < 64 + 5; decide)) (by show 5 ≤ 6; decide)) (by show 64 < 64 + 6; decide)) (by show 6 ≤ 7; decide)) (by show 64 < 64 + 7; decide)) (by show 7 ≤ 8; decide)) (by show 64 < 64 + 8; decide)) (by show 64 < 64 + 8; decide)) (by show 64 < 64 + 8; decide)) (by show 64 < 64 + 8; decide)) (by show 8 ≤ 9; decide)) (by show 64 < 64 + 9; decide)) (by show 9 ≤ 10; decide)) (by show 64 < 64 + 10; decide)) (by show 10 ≤ 11; decide))) (by show 64 < 64 + 11; decide)) (by show 11 ≤ 12; decide))) (by show 64 < 64 + 15; decide)) (by decide) dX7_init_112 rfl ?_
  refine z_dup dX7_init_115 rfl rfl ?_
  refine z_callIN (y0 := 16) (y1 := 21) (as := []) k_X3_init rfl m_X7_73 rfl (c_mkRules1 rfl (zcln_N (zcln_R (cl_mkReader rfl (zcln_N (zcln_R (cl_mkCross rfl (zcln_N (zcln_R (zcln_N (zcln_R (zcln_N (zcln_I (zcln_I (zcln_I (zcln_R (zcln_N (zcln_R (zcln_N (zcln_R (zcln_N (zcln_R (cl_mkSight rfl (zcln_N (zcln_R (cl_mkLand rfl (zcln_N hC (by show s.2.2.2 ≤ 2; rw [hN]; decide))) (by show 64 < 64 + 4; decide)) (by show 4 ≤ 5; decide))) (by show 64 < 64 + 5; decide)) (by show 5 ≤ 6; decide)) (by show 64 < 64 + 6; decide)) (by show 6 ≤ 7; decide)) (by show 64 < 64 + 7; decide)) (by show 7 ≤ 8; decide)) (by show 64 < 64 + 8; decide)) (by show 64 < 64 + 8; decide)) (by show 64 < 64 + 8; decide)) (by show 64 < 64 + 8; decide)) (by show 8 ≤ 9; decide)) (by show 64 < 64 + 9; decide)) (by show 9 ≤ 10; decide)) (by show 64 < 64 + 10; decide)) (by show 10 ≤ 11; decide))) (by show 64 < 64 + 11; decide)) (by show 11 ≤ 12; decide))) (by show 64 < 64 + 15; decide)) (by show 15 ≤ 16; decide)) (K := fun s1 => s1 = mkRules1 (zNn (zRf (mkReader (zNn (zRf (mkCross (zNn (zRf (zNn (zRf (zNn (zI (zI (zI (zRf (zNn (zRf (zNn (zRf (zNn (zRf (mkSight (zNn (zRf (mkLand (zNn s 2)) 64 0 65) 5)) 64 1 68) 6) 64 2 69) 7) 64 4 70) 8) 64 6 71) 64 8 (8 : Int32)) 64 9 (20 : Int32)) 64 10 (1 : Int32)) 9) 64 11 72) 10) 64 12 73) 11)) 64 13 74) 12)) 64 14 75) 16)) rfl) rfl (Nat.le_of_ble_eq_true rfl) dX7_init_116 (fun _ _ => ⟨rfl, by decide, by decide⟩) rfl ?_
  rintro v _ ⟨rfl, rfl⟩
  show zAt l g _ 1 100 M_X7_init 119 [.ref 64, zJ] [.ref 79, .ref 64] _ _
  refine z_putR f_X7_74 ⟨zCl7, by decide, by decide, (fun _ => by show 64 < 64 + 21; decide)⟩ rfl (by decide) (Or.inl rfl) rfl rfl dX7_init_119 rfl ?_
  refine z_aload_n (i := 0) dX7_init_122 rfl rfl rfl ?_
  refine z_new (n := 21) (q := 85) (c := 3) zCl3 cl_X7_71 in_3 ii_3 rfl (by decide : 64 + 21 = 85) (by decide) (zcln_R (cl_mkRules1 rfl (zcln_N (zcln_R (cl_mkReader rfl (zcln_N (zcln_R (cl_mkCross rfl (zcln_N (zcln_R (zcln_N (zcln_R (zcln_N (zcln_I (zcln_I (zcln_I (zcln_R (zcln_N (zcln_R (zcln_N (zcln_R (zcln_N (zcln_R (cl_mkSight rfl (zcln_N (zcln_R (cl_mkLand rfl (zcln_N hC (by show s.2.2.2 ≤ 2; rw [hN]; decide))) (by show 64 < 64 + 4; decide)) (by show 4 ≤ 5; decide))) (by show 64 < 64 + 5; decide)) (by show 5 ≤ 6; decide)) (by show 64 < 64 + 6; decide)) (by show 6 ≤ 7; decide)) (by show 64 < 64 + 7; decide)) (by show 7 ≤ 8; decide)) (by show 64 < 64 + 8; decide)) (by show 64 < 64 + 8; decide)) (by show 64 < 64 + 8; decide)) (by show 64 < 64 + 8; decide)) (by show 8 ≤ 9; decide)) (by show 64 < 64 + 9; decide)) (by show 9 ≤ 10; decide)) (by show 64 < 64 + 10; decide)) (by show 10 ≤ 11; decide))) (by show 64 < 64 + 11; decide)) (by show 11 ≤ 12; decide))) (by show 64 < 64 + 15; decide)) (by show 15 ≤ 16; decide))) (by show 64 < 64 + 21; decide)) (by decide) dX7_init_123 rfl ?_
  refine z_dup dX7_init_126 rfl rfl ?_
  refine z_callIN (y0 := 22) (y1 := 27) (as := []) k_X3_init rfl m_X7_73 rfl (c_mkRules2 rfl (zcln_N (zcln_R (cl_mkRules1 rfl (zcln_N (zcln_R (cl_mkReader rfl (zcln_N (zcln_R (cl_mkCross rfl (zcln_N (zcln_R (zcln_N (zcln_R (zcln_N (zcln_I (zcln_I (zcln_I (zcln_R (zcln_N (zcln_R (zcln_N (zcln_R (zcln_N (zcln_R (cl_mkSight rfl (zcln_N (zcln_R (cl_mkLand rfl (zcln_N hC (by show s.2.2.2 ≤ 2; rw [hN]; decide))) (by show 64 < 64 + 4; decide)) (by show 4 ≤ 5; decide))) (by show 64 < 64 + 5; decide)) (by show 5 ≤ 6; decide)) (by show 64 < 64 + 6; decide)) (by show 6 ≤ 7; decide)) (by show 64 < 64 + 7; decide)) (by show 7 ≤ 8; decide)) (by show 64 < 64 + 8; decide)) (by show 64 < 64 + 8; decide)) (by show 64 < 64 + 8; decide)) (by show 64 < 64 + 8; decide)) (by show 8 ≤ 9; decide)) (by show 64 < 64 + 9; decide)) (by show 9 ≤ 10; decide)) (by show 64 < 64 + 10; decide)) (by show 10 ≤ 11; decide))) (by show 64 < 64 + 11; decide)) (by show 11 ≤ 12; decide))) (by show 64 < 64 + 15; decide)) (by show 15 ≤ 16; decide))) (by show 64 < 64 + 21; decide)) (by show 21 ≤ 22; decide)) (K := fun s1 => s1 = mkRules2 (zNn (zRf (mkRules1 (zNn (zRf (mkReader (zNn (zRf (mkCross (zNn (zRf (zNn (zRf (zNn (zI (zI (zI (zRf (zNn (zRf (zNn (zRf (zNn (zRf (mkSight (zNn (zRf (mkLand (zNn s 2)) 64 0 65) 5)) 64 1 68) 6) 64 2 69) 7) 64 4 70) 8) 64 6 71) 64 8 (8 : Int32)) 64 9 (20 : Int32)) 64 10 (1 : Int32)) 9) 64 11 72) 10) 64 12 73) 11)) 64 13 74) 12)) 64 14 75) 16)) 64 15 79) 22)) rfl) rfl (Nat.le_of_ble_eq_true rfl) dX7_init_127 (fun _ _ => ⟨rfl, by decide, by decide⟩) rfl ?_
  rintro v _ ⟨rfl, rfl⟩
  show zAt l g _ 1 100 M_X7_init 130 [.ref 64, zJ] [.ref 85, .ref 64] _ _
  refine z_putR f_X7_78 ⟨zCl7, by decide, by decide, (fun _ => by show 64 < 64 + 27; decide)⟩ rfl (by decide) (Or.inl rfl) rfl rfl dX7_init_130 rfl ?_
  refine z_aload_n (i := 0) dX7_init_133 rfl rfl rfl ?_
  refine z_bipush (v := (7 : Int32)) dX7_init_134 (by decide) rfl ?_
  refine z_newa (atype := .int) (n := 27) (kd := 20) (len := 7) (q := 91) rfl (fun _ _ h9 => h9) w_aI (by decide) (by decide) (by decide) (by decide) (by decide) rfl (by decide) rfl (by decide : 64 + 27 = 91) (zcln_R (cl_mkRules2 rfl (zcln_N (zcln_R (cl_mkRules1 rfl (zcln_N (zcln_R (cl_mkReader rfl (zcln_N (zcln_R (cl_mkCross rfl (zcln_N (zcln_R (zcln_N (zcln_R (zcln_N (zcln_I (zcln_I (zcln_I (zcln_R (zcln_N (zcln_R (zcln_N (zcln_R (zcln_N (zcln_R (cl_mkSight rfl (zcln_N (zcln_R (cl_mkLand rfl (zcln_N hC (by show s.2.2.2 ≤ 2; rw [hN]; decide))) (by show 64 < 64 + 4; decide)) (by show 4 ≤ 5; decide))) (by show 64 < 64 + 5; decide)) (by show 5 ≤ 6; decide)) (by show 64 < 64 + 6; decide)) (by show 6 ≤ 7; decide)) (by show 64 < 64 + 7; decide)) (by show 7 ≤ 8; decide)) (by show 64 < 64 + 8; decide)) (by show 64 < 64 + 8; decide)) (by show 64 < 64 + 8; decide)) (by show 64 < 64 + 8; decide)) (by show 8 ≤ 9; decide)) (by show 64 < 64 + 9; decide)) (by show 9 ≤ 10; decide)) (by show 64 < 64 + 10; decide)) (by show 10 ≤ 11; decide))) (by show 64 < 64 + 11; decide)) (by show 11 ≤ 12; decide))) (by show 64 < 64 + 15; decide)) (by show 15 ≤ 16; decide))) (by show 64 < 64 + 21; decide)) (by show 21 ≤ 22; decide))) (by show 64 < 64 + 27; decide)) (by decide) dX7_init_136 rfl ?_
  refine z_putR f_X7_81 ⟨zCl7, by decide, by decide, (fun _ => by show 64 < 64 + 28; decide)⟩ rfl (by decide) (Or.inr ⟨rfl, rfl, rfl, zin 331 (by decide +kernel) (by decide +kernel)⟩) rfl rfl dX7_init_138 rfl ?_
  refine z_iconst (v := (0 : Int32)) dX7_init_141 (by decide) rfl ?_
  refine z_istore_n (i := 1) dX7_init_142 rfl (by decide) (zokd rfl) rfl ?_
  exact h
def thL : Nat → zS → zS
  | 0, s => s
  | i + 1, s => zRf (mkThing (92 + i) (zNn (thL i s) (28 + i + 1))) 70 i (92 + i)
def teL : Nat → zS → zS
  | 0, s => s
  | i + 1, s => zRf (zNn (teL i s) (40 + i + 1)) 71 i (104 + i)
theorem thL_N {s : zS} (h : s.2.2.2 = 28) : ∀ i, (thL i s).2.2.2 = 28 + i
  | 0 => h
  | i + 1 => rfl
theorem teL_N {s : zS} (h : s.2.2.2 = 40) : ∀ i, (teL i s).2.2.2 = 40 + i
  | 0 => h
  | i + 1 => rfl
theorem thL_c {s : zS} (hN : s.2.2.2 = 28) (h : zcln s) : ∀ i, zcln (thL i s)
  | 0 => h
  | i + 1 => zcln_R (zcln_I (zcln_I (zcln_N (thL_c hN h i) (by rw [thL_N hN]; omega)) (by show 92 + i < 64 + (28 + i + 1); omega)) (by show 92 + i < 64 + (28 + i + 1); omega)) (by show 70 < 64 + (28 + i + 1); omega)
theorem teL_c {s : zS} (hN : s.2.2.2 = 40) (h : zcln s) : ∀ i, zcln (teL i s)
  | 0 => h
  | i + 1 => zcln_R (zcln_N (teL_c hN h i) (by rw [teL_N hN]; omega)) (by show 71 < 64 + (40 + i + 1); omega)
theorem thL_R {s : zS} {k q : Nat} (h : s.2.2.1 64 k = q) : ∀ i, (thL i s).2.2.1 64 k = q
  | 0 => h
  | i + 1 => by
    show (if 64 = 70 ∧ k = i then 92 + i else (thL i s).2.2.1 64 k) = q
    rw [if_neg (by omega)]
    exact thL_R h i
theorem teL_R {s : zS} {k q : Nat} (h : s.2.2.1 64 k = q) : ∀ i, (teL i s).2.2.1 64 k = q
  | 0 => h
  | i + 1 => by
    show (if 64 = 71 ∧ k = i then 104 + i else (teL i s).2.2.1 64 k) = q
    rw [if_neg (by omega)]
    exact teL_R h i
set_option maxRecDepth 100000 in
theorem c_loop1 {l : Launch} {g : zG} {d : Nat} {s : zS} (hN : s.2.2.2 = 28) (hC : zcln s) (hT : s.2.2.1 64 4 = 70) {K : Option Value → zS → Prop} (h : zAt l g (d + 3) 1 100 M_X7_init 168 [.ref 64, .int (nI 12)] [] (thL 12 s) K) : ∀ n i : Nat, i + n = 12 → zAt l g (d + 3) 1 100 M_X7_init 143 [.ref 64, .int (nI i)] [] (thL i s) K := by
  intro n
  induction n with
  | zero =>
    intro i hi
    refine z_iload_n (i := 1) dX7_init_143 rfl rfl rfl ?_
    refine z_bipush (v := nI 12) dX7_init_144 (by decide) rfl ?_
    refine z_icmp_ge (pt := 168) dX7_init_146 (by decide) rfl (fun _ => ?_) (fun c => absurd (nI_le (by omega) (by omega)) c)
    rw [show i = 12 by omega]
    exact h
  | succ n ih =>
    intro i hi
    have hN9 := thL_N hN i
    refine z_iload_n (i := 1) dX7_init_143 rfl rfl rfl ?_
    refine z_bipush (v := nI 12) dX7_init_144 (by decide) rfl ?_
    refine z_icmp_ge (pt := 168) dX7_init_146 (by decide) rfl (fun c => absurd c (nI_ge (by omega) (by omega))) (fun _ => ?_)
    refine z_aload_n (i := 0) dX7_init_149 rfl rfl rfl ?_
    refine z_getR (q := 70) f_X7_31 ⟨zCl7, by decide, by decide, fun _ => by rw [hN9]; omega⟩ rfl (thL_R hT i) (by decide) dX7_init_150 rfl ?_
    refine z_iload_n (i := 1) dX7_init_153 rfl rfl rfl ?_
    refine z_new (n := 28 + i) (q := 92 + i) (c := 6) zCl6 cl_X7_29 in_6 ii_6 hN9 (by omega) (zk_Th _ (by omega) (by omega) (by omega)) (thL_c hN hC i) (by omega) dX7_init_154 rfl ?_
    refine z_dup dX7_init_157 rfl rfl ?_
    refine z_callIN (y0 := 28 + i + 1) (y1 := 28 + i + 1) (as := []) k_X6_init rfl m_X7_84 rfl (c_Thing (n := 28 + i + 1) rfl ⟨zk_Th _ (by omega) (by omega) (by omega), by omega, by omega⟩ (K := fun s1 => s1 = mkThing (92 + i) (zNn (thL i s) (28 + i + 1))) rfl) rfl (Nat.le_of_ble_eq_true rfl) dX7_init_158 (fun _ _ => ⟨rfl, by omega, by omega⟩) rfl ?_
    rintro v _ ⟨rfl, rfl⟩
    show zAt l g (d + 3) 1 100 M_X7_init 161 [.ref 64, .int (nI i)] [.ref (92 + i), .int (nI i), .ref 70] _ _
    refine z_aast (kd := 23) (n := 12) (c := 6) rfl (by decide) ⟨by decide, by decide, by decide, fun _ => by show 70 < 64 + (28 + i + 1); omega⟩ (vp_in_nI (by omega) (by omega)) (by omega) ⟨zCl6, zk_Th _ (by omega) (by omega) (by omega), by omega, fun _ => by show 92 + i < 64 + (28 + i + 1); omega⟩ dX7_init_161 rfl ?_
    refine z_iinc (v := nI (i + 1)) dX7_init_162 rfl (nI_succ i).symm (by decide) (zokd rfl) rfl ?_
    refine z_goto (pn := 143) dX7_init_165 (by decide) ?_
    rw [nI_clamp (by omega)]
    exact ih (i + 1) (by omega)
set_option maxRecDepth 100000 in
theorem c_loop2 {l : Launch} {g : zG} {d : Nat} {s : zS} (hN : s.2.2.2 = 40) (hC : zcln s) (hT : s.2.2.1 64 6 = 71) {K : zS → Prop} (h : K (teL 60 s)) : ∀ n i : Nat, i + n = 60 → zAt l g (d + 3) 1 100 M_X7_init 170 [.ref 64, .int (nI i)] [] (teL i s) (zKv K) := by
  intro n
  induction n with
  | zero =>
    intro i hi
    refine z_iload_n (i := 1) dX7_init_170 rfl rfl rfl ?_
    refine z_bipush (v := nI 60) dX7_init_171 (by decide) rfl ?_
    refine z_icmp_ge (pt := 195) dX7_init_173 (by decide) rfl (fun _ => ?_) (fun c => absurd (nI_le (by omega) (by omega)) c)
    have hi : i = 60 := by omega
    subst hi
    exact z_ret none (Or.inl ⟨rfl, rfl, dX7_init_195⟩) (fun _ _ => by rw [teL_N hN]) ⟨rfl, h⟩
  | succ n ih =>
    intro i hi
    have hN9 := teL_N hN i
    refine z_iload_n (i := 1) dX7_init_170 rfl rfl rfl ?_
    refine z_bipush (v := nI 60) dX7_init_171 (by decide) rfl ?_
    refine z_icmp_ge (pt := 195) dX7_init_173 (by decide) rfl (fun c => absurd c (nI_ge (by omega) (by omega))) (fun _ => ?_)
    refine z_aload_n (i := 0) dX7_init_176 rfl rfl rfl ?_
    refine z_getR (q := 71) f_X7_37 ⟨zCl7, by decide, by decide, fun _ => by rw [hN9]; omega⟩ rfl (teL_R hT i) (by decide) dX7_init_177 rfl ?_
    refine z_iload_n (i := 1) dX7_init_180 rfl rfl rfl ?_
    refine z_new (n := 40 + i) (q := 104 + i) (c := 5) zCl5 cl_X7_35 in_5 ii_5 hN9 (by omega) (zk_Te _ (by omega) (by omega) (by omega)) (teL_c hN hC i) (by omega) dX7_init_181 rfl ?_
    refine z_dup dX7_init_184 rfl rfl ?_
    refine z_callIN (y0 := 40 + i + 1) (y1 := 40 + i + 1) (as := []) k_X5_init rfl m_X7_85 rfl (c_Telling (n := 40 + i + 1) rfl (K := fun s1 => s1 = zNn (teL i s) (40 + i + 1)) rfl) rfl (Nat.le_of_ble_eq_true rfl) dX7_init_185 (fun _ _ => ⟨rfl, by omega, by omega⟩) rfl ?_
    rintro v _ ⟨rfl, rfl⟩
    show zAt l g (d + 3) 1 100 M_X7_init 188 [.ref 64, .int (nI i)] [.ref (104 + i), .int (nI i), .ref 71] _ _
    refine z_aast (kd := 24) (n := 60) (c := 5) rfl (by decide) ⟨by decide, by decide, by decide, fun _ => by show 71 < 64 + (40 + i + 1); omega⟩ (vp_in_nI (by omega) (by omega)) (by omega) ⟨zCl5, zk_Te _ (by omega) (by omega) (by omega), by omega, fun _ => by show 104 + i < 64 + (40 + i + 1); omega⟩ dX7_init_188 rfl ?_
    refine z_iinc (v := nI (i + 1)) dX7_init_189 rfl (nI_succ i).symm (by decide) (zokd rfl) rfl ?_
    refine z_goto (pn := 170) dX7_init_192 (by decide) ?_
    rw [nI_clamp (by omega)]
    exact ih (i + 1) (by omega)
def mkX (s : zS) : zS := teL 60 (thL 12 (mkX0 s))
theorem cl_mkX {s : zS} (hN : s.2.2.2 = 1) (hC : zcln s) : zcln (mkX s) := teL_c (thL_N rfl 12) (thL_c rfl (cl_mkX0 hN hC) 12) 60
set_option maxRecDepth 100000 in
theorem c_mkX {l : Launch} {g : zG} {d : Nat} {s : zS} (hN : s.2.2.2 = 1) (hC : zcln s) {K : zS → Prop} (h : K (mkX s)) : zCall l g (d + 3) 1 100 M_X7_init [.ref 64] s (zKv K) := by
  refine zCall_of k_X7_init (Nat.le_of_ble_eq_true rfl) (by decide) (fun _ => ?_)
  show zAt l g (d + 3) 1 100 M_X7_init 0 [.ref 64, zJ] [] s (zKv K)
  refine c_mkX0 hN hC ?_
  refine c_loop1 (s := mkX0 s) rfl (cl_mkX0 hN hC) rfl ?_ 12 0 (by omega)
  refine z_iconst (v := 0) dX7_init_168 (by decide) rfl ?_
  refine z_istore_n (i := 1) dX7_init_169 rfl (by decide) (zokd rfl) rfl ?_
  exact c_loop2 (thL_N rfl 12) (thL_c rfl (cl_mkX0 hN hC) 12) (thL_R rfl 12) h 60 0 (by omega)
theorem dX8_init_0 : decode cX8_init 0 = .ok (.aload_n 0, 1) := by decide +kernel
theorem dX8_init_1 : decode cX8_init 1 = .ok (.invokespecial 1, 3) := by decide +kernel
theorem dX8_init_4 : decode cX8_init 4 = .ok (.aload_n 0, 1) := by decide +kernel
theorem dX8_init_5 : decode cX8_init 5 = .ok (.bipush 8, 2) := by decide +kernel
theorem dX8_init_7 : decode cX8_init 7 = .ok (.newarray .int, 2) := by decide +kernel
theorem dX8_init_9 : decode cX8_init 9 = .ok (.putfield 9, 3) := by decide +kernel
theorem dX8_init_12 : decode cX8_init 12 = .ok (.aload_n 0, 1) := by decide +kernel
theorem dX8_init_13 : decode cX8_init 13 = .ok (.bipush 8, 2) := by decide +kernel
theorem dX8_init_15 : decode cX8_init 15 = .ok (.newarray .int, 2) := by decide +kernel
theorem dX8_init_17 : decode cX8_init 17 = .ok (.putfield 13, 3) := by decide +kernel
theorem dX8_init_20 : decode cX8_init 20 = .ok (.aload_n 0, 1) := by decide +kernel
theorem dX8_init_21 : decode cX8_init 21 = .ok (.bipush 8, 2) := by decide +kernel
theorem dX8_init_23 : decode cX8_init 23 = .ok (.newarray .int, 2) := by decide +kernel
theorem dX8_init_25 : decode cX8_init 25 = .ok (.putfield 16, 3) := by decide +kernel
theorem dX8_init_28 : decode cX8_init 28 = .ok (.aload_n 0, 1) := by decide +kernel
theorem dX8_init_29 : decode cX8_init 29 = .ok (.bipush 8, 2) := by decide +kernel
theorem dX8_init_31 : decode cX8_init 31 = .ok (.newarray .int, 2) := by decide +kernel
theorem dX8_init_33 : decode cX8_init 33 = .ok (.putfield 19, 3) := by decide +kernel
theorem dX8_init_36 : decode cX8_init 36 = .ok (.aload_n 0, 1) := by decide +kernel
theorem dX8_init_37 : decode cX8_init 37 = .ok (.bipush 8, 2) := by decide +kernel
theorem dX8_init_39 : decode cX8_init 39 = .ok (.newarray .int, 2) := by decide +kernel
theorem dX8_init_41 : decode cX8_init 41 = .ok (.putfield 22, 3) := by decide +kernel
theorem dX8_init_44 : decode cX8_init 44 = .ok (.aload_n 0, 1) := by decide +kernel
theorem dX8_init_45 : decode cX8_init 45 = .ok (.bipush 20, 2) := by decide +kernel
theorem dX8_init_47 : decode cX8_init 47 = .ok (.newarray .int, 2) := by decide +kernel
theorem dX8_init_49 : decode cX8_init 49 = .ok (.putfield 25, 3) := by decide +kernel
theorem dX8_init_52 : decode cX8_init 52 = .ok (.aload_n 0, 1) := by decide +kernel
theorem dX8_init_53 : decode cX8_init 53 = .ok (.bipush 20, 2) := by decide +kernel
theorem dX8_init_55 : decode cX8_init 55 = .ok (.newarray .int, 2) := by decide +kernel
theorem dX8_init_57 : decode cX8_init 57 = .ok (.putfield 28, 3) := by decide +kernel
theorem dX8_init_60 : decode cX8_init 60 = .ok (.aload_n 0, 1) := by decide +kernel
theorem dX8_init_61 : decode cX8_init 61 = .ok (.bipush 12, 2) := by decide +kernel
theorem dX8_init_63 : decode cX8_init 63 = .ok (.newarray .int, 2) := by decide +kernel
theorem dX8_init_65 : decode cX8_init 65 = .ok (.putfield 31, 3) := by decide +kernel
theorem dX8_init_68 : decode cX8_init 68 = .ok (.aload_n 0, 1) := by decide +kernel
theorem dX8_init_69 : decode cX8_init 69 = .ok (.bipush 12, 2) := by decide +kernel
theorem dX8_init_71 : decode cX8_init 71 = .ok (.newarray .int, 2) := by decide +kernel
theorem dX8_init_73 : decode cX8_init 73 = .ok (.putfield 34, 3) := by decide +kernel
theorem dX8_init_76 : decode cX8_init 76 = .ok (.aload_n 0, 1) := by decide +kernel
theorem dX8_init_77 : decode cX8_init 77 = .ok (.bipush 12, 2) := by decide +kernel
theorem dX8_init_79 : decode cX8_init 79 = .ok (.newarray .int, 2) := by decide +kernel
theorem dX8_init_81 : decode cX8_init 81 = .ok (.putfield 37, 3) := by decide +kernel
theorem dX8_init_84 : decode cX8_init 84 = .ok (.aload_n 0, 1) := by decide +kernel
theorem dX8_init_85 : decode cX8_init 85 = .ok (.bipush 12, 2) := by decide +kernel
theorem dX8_init_87 : decode cX8_init 87 = .ok (.newarray .int, 2) := by decide +kernel
theorem dX8_init_89 : decode cX8_init 89 = .ok (.putfield 40, 3) := by decide +kernel
theorem dX8_init_92 : decode cX8_init 92 = .ok (.aload_n 0, 1) := by decide +kernel
theorem dX8_init_93 : decode cX8_init 93 = .ok (.bipush 12, 2) := by decide +kernel
theorem dX8_init_95 : decode cX8_init 95 = .ok (.newarray .int, 2) := by decide +kernel
theorem dX8_init_97 : decode cX8_init 97 = .ok (.putfield 43, 3) := by decide +kernel
theorem dX8_init_100 : decode cX8_init 100 = .ok (.aload_n 0, 1) := by decide +kernel
theorem dX8_init_101 : decode cX8_init 101 = .ok (.bipush 12, 2) := by decide +kernel
theorem dX8_init_103 : decode cX8_init 103 = .ok (.newarray .int, 2) := by decide +kernel
theorem dX8_init_105 : decode cX8_init 105 = .ok (.putfield 46, 3) := by decide +kernel
theorem dX8_init_108 : decode cX8_init 108 = .ok (.aload_n 0, 1) := by decide +kernel
theorem dX8_init_109 : decode cX8_init 109 = .ok (.bipush 12, 2) := by decide +kernel
theorem dX8_init_111 : decode cX8_init 111 = .ok (.newarray .int, 2) := by decide +kernel
theorem dX8_init_113 : decode cX8_init 113 = .ok (.putfield 49, 3) := by decide +kernel
theorem dX8_init_116 : decode cX8_init 116 = .ok (.aload_n 0, 1) := by decide +kernel
theorem dX8_init_117 : decode cX8_init 117 = .ok (.bipush 12, 2) := by decide +kernel
theorem dX8_init_119 : decode cX8_init 119 = .ok (.newarray .int, 2) := by decide +kernel
theorem dX8_init_121 : decode cX8_init 121 = .ok (.putfield 52, 3) := by decide +kernel
theorem dX8_init_124 : decode cX8_init 124 = .ok (.aload_n 0, 1) := by decide +kernel
theorem dX8_init_125 : decode cX8_init 125 = .ok (.bipush 12, 2) := by decide +kernel
theorem dX8_init_127 : decode cX8_init 127 = .ok (.newarray .int, 2) := by decide +kernel
theorem dX8_init_129 : decode cX8_init 129 = .ok (.putfield 55, 3) := by decide +kernel
theorem dX8_init_132 : decode cX8_init 132 = .ok (.aload_n 0, 1) := by decide +kernel
theorem dX8_init_133 : decode cX8_init 133 = .ok (.bipush 12, 2) := by decide +kernel
theorem dX8_init_135 : decode cX8_init 135 = .ok (.newarray .int, 2) := by decide +kernel
theorem dX8_init_137 : decode cX8_init 137 = .ok (.putfield 58, 3) := by decide +kernel
theorem dX8_init_140 : decode cX8_init 140 = .ok (.aload_n 0, 1) := by decide +kernel
theorem dX8_init_141 : decode cX8_init 141 = .ok (.bipush 60, 2) := by decide +kernel
theorem dX8_init_143 : decode cX8_init 143 = .ok (.bipush 9, 2) := by decide +kernel
theorem dX8_init_145 : decode cX8_init 145 = .ok (.multianewarray 61 2, 4) := by decide +kernel
theorem dX8_init_149 : decode cX8_init 149 = .ok (.putfield 63, 3) := by decide +kernel
theorem dX8_init_152 : decode cX8_init 152 = .ok (.aload_n 0, 1) := by decide +kernel
theorem dX8_init_153 : decode cX8_init 153 = .ok (.bipush 8, 2) := by decide +kernel
theorem dX8_init_155 : decode cX8_init 155 = .ok (.putfield 66, 3) := by decide +kernel
theorem dX8_init_158 : decode cX8_init 158 = .ok (.aload_n 0, 1) := by decide +kernel
theorem dX8_init_159 : decode cX8_init 159 = .ok (.bipush 20, 2) := by decide +kernel
theorem dX8_init_161 : decode cX8_init 161 = .ok (.putfield 70, 3) := by decide +kernel
theorem dX8_init_164 : decode cX8_init 164 = .ok (.aload_n 0, 1) := by decide +kernel
theorem dX8_init_165 : decode cX8_init 165 = .ok (.bipush 60, 2) := by decide +kernel
theorem dX8_init_167 : decode cX8_init 167 = .ok (.newarray .int, 2) := by decide +kernel
theorem dX8_init_169 : decode cX8_init 169 = .ok (.putfield 73, 3) := by decide +kernel
theorem dX8_init_172 : decode cX8_init 172 = .ok (.aload_n 0, 1) := by decide +kernel
theorem dX8_init_173 : decode cX8_init 173 = .ok (.sipush 400, 3) := by decide +kernel
theorem dX8_init_176 : decode cX8_init 176 = .ok (.newarray .byte, 2) := by decide +kernel
theorem dX8_init_178 : decode cX8_init 178 = .ok (.putfield 76, 3) := by decide +kernel
theorem dX8_init_181 : decode cX8_init 181 = .ok (.aload_n 0, 1) := by decide +kernel
theorem dX8_init_182 : decode cX8_init 182 = .ok (.iconst 2, 1) := by decide +kernel
theorem dX8_init_183 : decode cX8_init 183 = .ok (.sipush 420, 3) := by decide +kernel
theorem dX8_init_186 : decode cX8_init 186 = .ok (.multianewarray 61 2, 4) := by decide +kernel
theorem dX8_init_190 : decode cX8_init 190 = .ok (.putfield 80, 3) := by decide +kernel
theorem dX8_init_193 : decode cX8_init 193 = .ok (.aload_n 0, 1) := by decide +kernel
theorem dX8_init_194 : decode cX8_init 194 = .ok (.iconst 2, 1) := by decide +kernel
theorem dX8_init_195 : decode cX8_init 195 = .ok (.bipush 13, 2) := by decide +kernel
theorem dX8_init_197 : decode cX8_init 197 = .ok (.multianewarray 61 2, 4) := by decide +kernel
theorem dX8_init_201 : decode cX8_init 201 = .ok (.putfield 83, 3) := by decide +kernel
theorem dX8_init_204 : decode cX8_init 204 = .ok (.aload_n 0, 1) := by decide +kernel
theorem dX8_init_205 : decode cX8_init 205 = .ok (.iconst 2, 1) := by decide +kernel
theorem dX8_init_206 : decode cX8_init 206 = .ok (.bipush 13, 2) := by decide +kernel
theorem dX8_init_208 : decode cX8_init 208 = .ok (.multianewarray 61 2, 4) := by decide +kernel
theorem dX8_init_212 : decode cX8_init 212 = .ok (.putfield 86, 3) := by decide +kernel
theorem dX8_init_215 : decode cX8_init 215 = .ok (.aload_n 0, 1) := by decide +kernel
theorem dX8_init_216 : decode cX8_init 216 = .ok (.iconst 2, 1) := by decide +kernel
theorem dX8_init_217 : decode cX8_init 217 = .ok (.bipush 13, 2) := by decide +kernel
theorem dX8_init_219 : decode cX8_init 219 = .ok (.multianewarray 61 2, 4) := by decide +kernel
theorem dX8_init_223 : decode cX8_init 223 = .ok (.putfield 89, 3) := by decide +kernel
theorem dX8_init_226 : decode cX8_init 226 = .ok (.aload_n 0, 1) := by decide +kernel
theorem dX8_init_227 : decode cX8_init 227 = .ok (.iconst 2, 1) := by decide +kernel
theorem dX8_init_228 : decode cX8_init 228 = .ok (.newarray .int, 2) := by decide +kernel
theorem dX8_init_230 : decode cX8_init 230 = .ok (.putfield 92, 3) := by decide +kernel
theorem dX8_init_233 : decode cX8_init 233 = .ok (.aload_n 0, 1) := by decide +kernel
theorem dX8_init_234 : decode cX8_init 234 = .ok (.iconst 2, 1) := by decide +kernel
theorem dX8_init_235 : decode cX8_init 235 = .ok (.newarray .int, 2) := by decide +kernel
theorem dX8_init_237 : decode cX8_init 237 = .ok (.putfield 95, 3) := by decide +kernel
theorem dX8_init_240 : decode cX8_init 240 = .ok (.aload_n 0, 1) := by decide +kernel
theorem dX8_init_241 : decode cX8_init 241 = .ok (.iconst 2, 1) := by decide +kernel
theorem dX8_init_242 : decode cX8_init 242 = .ok (.newarray .boolean, 2) := by decide +kernel
theorem dX8_init_244 : decode cX8_init 244 = .ok (.putfield 98, 3) := by decide +kernel
theorem dX8_init_247 : decode cX8_init 247 = .ok (.aload_n 0, 1) := by decide +kernel
theorem dX8_init_248 : decode cX8_init 248 = .ok (.sipush 420, 3) := by decide +kernel
theorem dX8_init_251 : decode cX8_init 251 = .ok (.newarray .int, 2) := by decide +kernel
theorem dX8_init_253 : decode cX8_init 253 = .ok (.putfield 102, 3) := by decide +kernel
theorem dX8_init_256 : decode cX8_init 256 = .ok (.aload_n 0, 1) := by decide +kernel
theorem dX8_init_257 : decode cX8_init 257 = .ok (.bipush 7, 2) := by decide +kernel
theorem dX8_init_259 : decode cX8_init 259 = .ok (.newarray .int, 2) := by decide +kernel
theorem dX8_init_261 : decode cX8_init 261 = .ok (.putfield 105, 3) := by decide +kernel
theorem dX8_init_264 : decode cX8_init 264 = .ok (.aload_n 0, 1) := by decide +kernel
theorem dX8_init_265 : decode cX8_init 265 = .ok (.bipush 7, 2) := by decide +kernel
theorem dX8_init_267 : decode cX8_init 267 = .ok (.anewarray 108, 3) := by decide +kernel
theorem dX8_init_270 : decode cX8_init 270 = .ok (.dup, 1) := by decide +kernel
theorem dX8_init_271 : decode cX8_init 271 = .ok (.iconst 0, 1) := by decide +kernel
theorem dX8_init_272 : decode cX8_init 272 = .ok (.ldc 110, 2) := by decide +kernel
theorem dX8_init_274 : decode cX8_init 274 = .ok (.aastore, 1) := by decide +kernel
theorem dX8_init_275 : decode cX8_init 275 = .ok (.dup, 1) := by decide +kernel
theorem dX8_init_276 : decode cX8_init 276 = .ok (.iconst 1, 1) := by decide +kernel
theorem dX8_init_277 : decode cX8_init 277 = .ok (.ldc 112, 2) := by decide +kernel
theorem dX8_init_279 : decode cX8_init 279 = .ok (.aastore, 1) := by decide +kernel
theorem dX8_init_280 : decode cX8_init 280 = .ok (.dup, 1) := by decide +kernel
theorem dX8_init_281 : decode cX8_init 281 = .ok (.iconst 2, 1) := by decide +kernel
theorem dX8_init_282 : decode cX8_init 282 = .ok (.ldc 114, 2) := by decide +kernel
theorem dX8_init_284 : decode cX8_init 284 = .ok (.aastore, 1) := by decide +kernel
theorem dX8_init_285 : decode cX8_init 285 = .ok (.dup, 1) := by decide +kernel
theorem dX8_init_286 : decode cX8_init 286 = .ok (.iconst 3, 1) := by decide +kernel
theorem dX8_init_287 : decode cX8_init 287 = .ok (.ldc 116, 2) := by decide +kernel
theorem dX8_init_289 : decode cX8_init 289 = .ok (.aastore, 1) := by decide +kernel
theorem dX8_init_290 : decode cX8_init 290 = .ok (.dup, 1) := by decide +kernel
theorem dX8_init_291 : decode cX8_init 291 = .ok (.iconst 4, 1) := by decide +kernel
theorem dX8_init_292 : decode cX8_init 292 = .ok (.ldc 118, 2) := by decide +kernel
theorem dX8_init_294 : decode cX8_init 294 = .ok (.aastore, 1) := by decide +kernel
theorem dX8_init_295 : decode cX8_init 295 = .ok (.dup, 1) := by decide +kernel
theorem dX8_init_296 : decode cX8_init 296 = .ok (.iconst 5, 1) := by decide +kernel
theorem dX8_init_297 : decode cX8_init 297 = .ok (.ldc 120, 2) := by decide +kernel
theorem dX8_init_299 : decode cX8_init 299 = .ok (.aastore, 1) := by decide +kernel
theorem dX8_init_300 : decode cX8_init 300 = .ok (.dup, 1) := by decide +kernel
theorem dX8_init_301 : decode cX8_init 301 = .ok (.bipush 6, 2) := by decide +kernel
theorem dX8_init_303 : decode cX8_init 303 = .ok (.ldc 122, 2) := by decide +kernel
theorem dX8_init_305 : decode cX8_init 305 = .ok (.aastore, 1) := by decide +kernel
theorem dX8_init_306 : decode cX8_init 306 = .ok (.putfield 124, 3) := by decide +kernel
theorem dX8_init_309 : decode cX8_init 309 = .ok (.aload_n 0, 1) := by decide +kernel
theorem dX8_init_310 : decode cX8_init 310 = .ok (.bipush 7, 2) := by decide +kernel
theorem dX8_init_312 : decode cX8_init 312 = .ok (.anewarray 108, 3) := by decide +kernel
theorem dX8_init_315 : decode cX8_init 315 = .ok (.dup, 1) := by decide +kernel
theorem dX8_init_316 : decode cX8_init 316 = .ok (.iconst 0, 1) := by decide +kernel
theorem dX8_init_317 : decode cX8_init 317 = .ok (.ldc 128, 2) := by decide +kernel
theorem dX8_init_319 : decode cX8_init 319 = .ok (.aastore, 1) := by decide +kernel
theorem dX8_init_320 : decode cX8_init 320 = .ok (.dup, 1) := by decide +kernel
theorem dX8_init_321 : decode cX8_init 321 = .ok (.iconst 1, 1) := by decide +kernel
theorem dX8_init_322 : decode cX8_init 322 = .ok (.ldc 130, 2) := by decide +kernel
theorem dX8_init_324 : decode cX8_init 324 = .ok (.aastore, 1) := by decide +kernel
theorem dX8_init_325 : decode cX8_init 325 = .ok (.dup, 1) := by decide +kernel
theorem dX8_init_326 : decode cX8_init 326 = .ok (.iconst 2, 1) := by decide +kernel
theorem dX8_init_327 : decode cX8_init 327 = .ok (.ldc 132, 2) := by decide +kernel
theorem dX8_init_329 : decode cX8_init 329 = .ok (.aastore, 1) := by decide +kernel
theorem dX8_init_330 : decode cX8_init 330 = .ok (.dup, 1) := by decide +kernel
theorem dX8_init_331 : decode cX8_init 331 = .ok (.iconst 3, 1) := by decide +kernel
theorem dX8_init_332 : decode cX8_init 332 = .ok (.ldc 134, 2) := by decide +kernel
theorem dX8_init_334 : decode cX8_init 334 = .ok (.aastore, 1) := by decide +kernel
theorem dX8_init_335 : decode cX8_init 335 = .ok (.dup, 1) := by decide +kernel
theorem dX8_init_336 : decode cX8_init 336 = .ok (.iconst 4, 1) := by decide +kernel
theorem dX8_init_337 : decode cX8_init 337 = .ok (.ldc 136, 2) := by decide +kernel
theorem dX8_init_339 : decode cX8_init 339 = .ok (.aastore, 1) := by decide +kernel
theorem dX8_init_340 : decode cX8_init 340 = .ok (.dup, 1) := by decide +kernel
theorem dX8_init_341 : decode cX8_init 341 = .ok (.iconst 5, 1) := by decide +kernel
theorem dX8_init_342 : decode cX8_init 342 = .ok (.ldc 138, 2) := by decide +kernel
theorem dX8_init_344 : decode cX8_init 344 = .ok (.aastore, 1) := by decide +kernel
theorem dX8_init_345 : decode cX8_init 345 = .ok (.dup, 1) := by decide +kernel
theorem dX8_init_346 : decode cX8_init 346 = .ok (.bipush 6, 2) := by decide +kernel
theorem dX8_init_348 : decode cX8_init 348 = .ok (.ldc 140, 2) := by decide +kernel
theorem dX8_init_350 : decode cX8_init 350 = .ok (.aastore, 1) := by decide +kernel
theorem dX8_init_351 : decode cX8_init 351 = .ok (.putfield 142, 3) := by decide +kernel
theorem dX8_init_354 : decode cX8_init 354 = .ok (.return_, 1) := by decide +kernel
def mkModel (s : zS) : zS := zRf (zRf (zRf (zRf (zRf (zRf (zRf (zRf (zNn (zRf (zRf (zRf (zRf (zRf (zRf (zRf (zRf (zNn (zRf (zNn (zRf (zNn (zRf (zNn (zRf (zNn (zRf (zNn (zRf (zMul (zRf (zMul (zRf (zMul (zRf (zMul (zRf (zNn (zRf (zNn (zI (zI (zRf (zMul (zRf (zNn (zRf (zNn (zRf (zNn (zRf (zNn (zRf (zNn (zRf (zNn (zRf (zNn (zRf (zNn (zRf (zNn (zRf (zNn (zRf (zNn (zRf (zNn (zRf (zNn (zRf (zNn (zRf (zNn (zRf (zNn (zRf (zNn s 102) 164 0 165) 103) 164 1 166) 104) 164 2 167) 105) 164 3 168) 106) 164 4 169) 107) 164 5 170) 108) 164 6 171) 109) 164 7 172) 110) 164 8 173) 111) 164 9 174) 112) 164 10 175) 113) 164 11 176) 114) 164 12 177) 115) 164 13 178) 116) 164 14 179) 117) 164 15 180) 118) 164 16 181) 182 60 118) 164 23 182) 164 25 (8 : Int32)) 164 26 (20 : Int32)) 180) 164 27 243) 181) 164 28 244) 245 2 181) 164 33 245) 248 2 184) 164 34 248) 251 2 187) 164 35 251) 254 2 190) 164 36 254) 194) 164 37 257) 195) 164 38 258) 196) 164 39 259) 197) 164 40 260) 198) 164 41 261) 199) 262 0 4) 262 1 5) 262 2 6) 262 3 7) 262 4 8) 262 5 9) 262 6 10) 164 42 262) 200) 263 0 11) 263 1 12) 263 2 13) 263 3 14) 263 4 15) 263 5 16) 263 6 17) 164 43 263
theorem cl_mkModel {s : zS} (hN : s.2.2.2 = 101) (hC : zcln s) : zcln (mkModel s) := (zcln_R (zcln_R (zcln_R (zcln_R (zcln_R (zcln_R (zcln_R (zcln_R (zcln_N (zcln_R (zcln_R (zcln_R (zcln_R (zcln_R (zcln_R (zcln_R (zcln_R (zcln_N (zcln_R (zcln_N (zcln_R (zcln_N (zcln_R (zcln_N (zcln_R (zcln_N (zcln_R (zcln_N (zcln_R (zcln_M (zcln_R (zcln_M (zcln_R (zcln_M (zcln_R (zcln_M (zcln_R (zcln_N (zcln_R (zcln_N (zcln_I (zcln_I (zcln_R (zcln_M (zcln_R (zcln_N (zcln_R (zcln_N (zcln_R (zcln_N (zcln_R (zcln_N (zcln_R (zcln_N (zcln_R (zcln_N (zcln_R (zcln_N (zcln_R (zcln_N (zcln_R (zcln_N (zcln_R (zcln_N (zcln_R (zcln_N (zcln_R (zcln_N (zcln_R (zcln_N (zcln_R (zcln_N (zcln_R (zcln_N (zcln_R (zcln_N (zcln_R (zcln_N hC (by show s.2.2.2 ≤ 102; rw [hN]; decide)) (by show 164 < 64 + 102; decide)) (by show 102 ≤ 103; decide)) (by show 164 < 64 + 103; decide)) (by show 103 ≤ 104; decide)) (by show 164 < 64 + 104; decide)) (by show 104 ≤ 105; decide)) (by show 164 < 64 + 105; decide)) (by show 105 ≤ 106; decide)) (by show 164 < 64 + 106; decide)) (by show 106 ≤ 107; decide)) (by show 164 < 64 + 107; decide)) (by show 107 ≤ 108; decide)) (by show 164 < 64 + 108; decide)) (by show 108 ≤ 109; decide)) (by show 164 < 64 + 109; decide)) (by show 109 ≤ 110; decide)) (by show 164 < 64 + 110; decide)) (by show 110 ≤ 111; decide)) (by show 164 < 64 + 111; decide)) (by show 111 ≤ 112; decide)) (by show 164 < 64 + 112; decide)) (by show 112 ≤ 113; decide)) (by show 164 < 64 + 113; decide)) (by show 113 ≤ 114; decide)) (by show 164 < 64 + 114; decide)) (by show 114 ≤ 115; decide)) (by show 164 < 64 + 115; decide)) (by show 115 ≤ 116; decide)) (by show 164 < 64 + 116; decide)) (by show 116 ≤ 117; decide)) (by show 164 < 64 + 117; decide)) (by show 117 ≤ 118; decide)) (by show 164 < 64 + 118; decide)) rfl (by decide)) (by show 164 < 64 + 179; decide)) (by show 164 < 64 + 179; decide)) (by show 164 < 64 + 179; decide)) (by show 179 ≤ 180; decide)) (by show 164 < 64 + 180; decide)) (by show 180 ≤ 181; decide)) (by show 164 < 64 + 181; decide)) rfl (by decide)) (by show 164 < 64 + 184; decide)) rfl (by decide)) (by show 164 < 64 + 187; decide)) rfl (by decide)) (by show 164 < 64 + 190; decide)) rfl (by decide)) (by show 164 < 64 + 193; decide)) (by show 193 ≤ 194; decide)) (by show 164 < 64 + 194; decide)) (by show 194 ≤ 195; decide)) (by show 164 < 64 + 195; decide)) (by show 195 ≤ 196; decide)) (by show 164 < 64 + 196; decide)) (by show 196 ≤ 197; decide)) (by show 164 < 64 + 197; decide)) (by show 197 ≤ 198; decide)) (by show 164 < 64 + 198; decide)) (by show 198 ≤ 199; decide)) (by show 262 < 64 + 199; decide)) (by show 262 < 64 + 199; decide)) (by show 262 < 64 + 199; decide)) (by show 262 < 64 + 199; decide)) (by show 262 < 64 + 199; decide)) (by show 262 < 64 + 199; decide)) (by show 262 < 64 + 199; decide)) (by show 164 < 64 + 199; decide)) (by show 199 ≤ 200; decide)) (by show 263 < 64 + 200; decide)) (by show 263 < 64 + 200; decide)) (by show 263 < 64 + 200; decide)) (by show 263 < 64 + 200; decide)) (by show 263 < 64 + 200; decide)) (by show 263 < 64 + 200; decide)) (by show 263 < 64 + 200; decide)) (by show 164 < 64 + 200; decide))
set_option maxRecDepth 100000 in
set_option maxHeartbeats 4000000 in
theorem c_mkModel {l : Launch} {g : zG} {d : Nat} {s : zS} (hN : s.2.2.2 = 101) (hC : zcln s) {K : zS → Prop} (h : K (mkModel s)) : zCall l g (d + 1) 101 200 M_X8_init [.ref 164] s (zKv K) := by
  refine zCall_of k_X8_init (Nat.le_of_ble_eq_true rfl) (by decide) (fun _ => ?_)
  show zAt l g (d + 1) 101 200 M_X8_init 0 [.ref 164] [] s (zKv K)
  refine z_aload_n (i := 0) dX8_init_0 rfl rfl rfl ?_
  refine z_objInit oi_X8 w_oi w_oc dX8_init_1 (Nat.le_of_ble_eq_true rfl) rfl ?_
  refine z_aload_n (i := 0) dX8_init_4 rfl rfl rfl ?_
  refine z_bipush (v := (8 : Int32)) dX8_init_5 (by decide) rfl ?_
  refine z_newa (atype := .int) (n := 101) (kd := 20) (len := 8) (q := 165) rfl (fun _ _ h9 => h9) w_aI (by decide) (by decide) (by decide) (by decide) (by decide) rfl (by decide) hN (by decide : 64 + 101 = 165) hC (by decide) dX8_init_7 rfl ?_
  refine z_putR f_X8_9 ⟨zCl8, by decide, by decide, (fun _ => by show 164 < 64 + 102; decide)⟩ rfl (by decide) (Or.inr ⟨rfl, rfl, rfl, zin 991 (by decide +kernel) (by decide +kernel)⟩) rfl rfl dX8_init_9 rfl ?_
  refine z_aload_n (i := 0) dX8_init_12 rfl rfl rfl ?_
  refine z_bipush (v := (8 : Int32)) dX8_init_13 (by decide) rfl ?_
  refine z_newa (atype := .int) (n := 102) (kd := 20) (len := 8) (q := 166) rfl (fun _ _ h9 => h9) w_aI (by decide) (by decide) (by decide) (by decide) (by decide) rfl (by decide) rfl (by decide : 64 + 102 = 166) (zcln_R (zcln_N hC (by show s.2.2.2 ≤ 102; rw [hN]; decide)) (by show 164 < 64 + 102; decide)) (by decide) dX8_init_15 rfl ?_
  refine z_putR f_X8_13 ⟨zCl8, by decide, by decide, (fun _ => by show 164 < 64 + 103; decide)⟩ rfl (by decide) (Or.inr ⟨rfl, rfl, rfl, zin 992 (by decide +kernel) (by decide +kernel)⟩) rfl rfl dX8_init_17 rfl ?_
  refine z_aload_n (i := 0) dX8_init_20 rfl rfl rfl ?_
  refine z_bipush (v := (8 : Int32)) dX8_init_21 (by decide) rfl ?_
  refine z_newa (atype := .int) (n := 103) (kd := 20) (len := 8) (q := 167) rfl (fun _ _ h9 => h9) w_aI (by decide) (by decide) (by decide) (by decide) (by decide) rfl (by decide) rfl (by decide : 64 + 103 = 167) (zcln_R (zcln_N (zcln_R (zcln_N hC (by show s.2.2.2 ≤ 102; rw [hN]; decide)) (by show 164 < 64 + 102; decide)) (by show 102 ≤ 103; decide)) (by show 164 < 64 + 103; decide)) (by decide) dX8_init_23 rfl ?_
  refine z_putR f_X8_16 ⟨zCl8, by decide, by decide, (fun _ => by show 164 < 64 + 104; decide)⟩ rfl (by decide) (Or.inr ⟨rfl, rfl, rfl, zin 993 (by decide +kernel) (by decide +kernel)⟩) rfl rfl dX8_init_25 rfl ?_
  refine z_aload_n (i := 0) dX8_init_28 rfl rfl rfl ?_
  refine z_bipush (v := (8 : Int32)) dX8_init_29 (by decide) rfl ?_
  refine z_newa (atype := .int) (n := 104) (kd := 20) (len := 8) (q := 168) rfl (fun _ _ h9 => h9) w_aI (by decide) (by decide) (by decide) (by decide) (by decide) rfl (by decide) rfl (by decide : 64 + 104 = 168) (zcln_R (zcln_N (zcln_R (zcln_N (zcln_R (zcln_N hC (by show s.2.2.2 ≤ 102; rw [hN]; decide)) (by show 164 < 64 + 102; decide)) (by show 102 ≤ 103; decide)) (by show 164 < 64 + 103; decide)) (by show 103 ≤ 104; decide)) (by show 164 < 64 + 104; decide)) (by decide) dX8_init_31 rfl ?_
  refine z_putR f_X8_19 ⟨zCl8, by decide, by decide, (fun _ => by show 164 < 64 + 105; decide)⟩ rfl (by decide) (Or.inr ⟨rfl, rfl, rfl, zin 994 (by decide +kernel) (by decide +kernel)⟩) rfl rfl dX8_init_33 rfl ?_
  refine z_aload_n (i := 0) dX8_init_36 rfl rfl rfl ?_
  refine z_bipush (v := (8 : Int32)) dX8_init_37 (by decide) rfl ?_
  refine z_newa (atype := .int) (n := 105) (kd := 20) (len := 8) (q := 169) rfl (fun _ _ h9 => h9) w_aI (by decide) (by decide) (by decide) (by decide) (by decide) rfl (by decide) rfl (by decide : 64 + 105 = 169) (zcln_R (zcln_N (zcln_R (zcln_N (zcln_R (zcln_N (zcln_R (zcln_N hC (by show s.2.2.2 ≤ 102; rw [hN]; decide)) (by show 164 < 64 + 102; decide)) (by show 102 ≤ 103; decide)) (by show 164 < 64 + 103; decide)) (by show 103 ≤ 104; decide)) (by show 164 < 64 + 104; decide)) (by show 104 ≤ 105; decide)) (by show 164 < 64 + 105; decide)) (by decide) dX8_init_39 rfl ?_
  refine z_putR f_X8_22 ⟨zCl8, by decide, by decide, (fun _ => by show 164 < 64 + 106; decide)⟩ rfl (by decide) (Or.inr ⟨rfl, rfl, rfl, zin 995 (by decide +kernel) (by decide +kernel)⟩) rfl rfl dX8_init_41 rfl ?_
  refine z_aload_n (i := 0) dX8_init_44 rfl rfl rfl ?_
  refine z_bipush (v := (20 : Int32)) dX8_init_45 (by decide) rfl ?_
  refine z_newa (atype := .int) (n := 106) (kd := 20) (len := 20) (q := 170) rfl (fun _ _ h9 => h9) w_aI (by decide) (by decide) (by decide) (by decide) (by decide) rfl (by decide) rfl (by decide : 64 + 106 = 170) (zcln_R (zcln_N (zcln_R (zcln_N (zcln_R (zcln_N (zcln_R (zcln_N (zcln_R (zcln_N hC (by show s.2.2.2 ≤ 102; rw [hN]; decide)) (by show 164 < 64 + 102; decide)) (by show 102 ≤ 103; decide)) (by show 164 < 64 + 103; decide)) (by show 103 ≤ 104; decide)) (by show 164 < 64 + 104; decide)) (by show 104 ≤ 105; decide)) (by show 164 < 64 + 105; decide)) (by show 105 ≤ 106; decide)) (by show 164 < 64 + 106; decide)) (by decide) dX8_init_47 rfl ?_
  refine z_putR f_X8_25 ⟨zCl8, by decide, by decide, (fun _ => by show 164 < 64 + 107; decide)⟩ rfl (by decide) (Or.inr ⟨rfl, rfl, rfl, zin 996 (by decide +kernel) (by decide +kernel)⟩) rfl rfl dX8_init_49 rfl ?_
  refine z_aload_n (i := 0) dX8_init_52 rfl rfl rfl ?_
  refine z_bipush (v := (20 : Int32)) dX8_init_53 (by decide) rfl ?_
  refine z_newa (atype := .int) (n := 107) (kd := 20) (len := 20) (q := 171) rfl (fun _ _ h9 => h9) w_aI (by decide) (by decide) (by decide) (by decide) (by decide) rfl (by decide) rfl (by decide : 64 + 107 = 171) (zcln_R (zcln_N (zcln_R (zcln_N (zcln_R (zcln_N (zcln_R (zcln_N (zcln_R (zcln_N (zcln_R (zcln_N hC (by show s.2.2.2 ≤ 102; rw [hN]; decide)) (by show 164 < 64 + 102; decide)) (by show 102 ≤ 103; decide)) (by show 164 < 64 + 103; decide)) (by show 103 ≤ 104; decide)) (by show 164 < 64 + 104; decide)) (by show 104 ≤ 105; decide)) (by show 164 < 64 + 105; decide)) (by show 105 ≤ 106; decide)) (by show 164 < 64 + 106; decide)) (by show 106 ≤ 107; decide)) (by show 164 < 64 + 107; decide)) (by decide) dX8_init_55 rfl ?_
  refine z_putR f_X8_28 ⟨zCl8, by decide, by decide, (fun _ => by show 164 < 64 + 108; decide)⟩ rfl (by decide) (Or.inr ⟨rfl, rfl, rfl, zin 997 (by decide +kernel) (by decide +kernel)⟩) rfl rfl dX8_init_57 rfl ?_
  refine z_aload_n (i := 0) dX8_init_60 rfl rfl rfl ?_
  refine z_bipush (v := (12 : Int32)) dX8_init_61 (by decide) rfl ?_
  refine z_newa (atype := .int) (n := 108) (kd := 20) (len := 12) (q := 172) rfl (fun _ _ h9 => h9) w_aI (by decide) (by decide) (by decide) (by decide) (by decide) rfl (by decide) rfl (by decide : 64 + 108 = 172) (zcln_R (zcln_N (zcln_R (zcln_N (zcln_R (zcln_N (zcln_R (zcln_N (zcln_R (zcln_N (zcln_R (zcln_N (zcln_R (zcln_N hC (by show s.2.2.2 ≤ 102; rw [hN]; decide)) (by show 164 < 64 + 102; decide)) (by show 102 ≤ 103; decide)) (by show 164 < 64 + 103; decide)) (by show 103 ≤ 104; decide)) (by show 164 < 64 + 104; decide)) (by show 104 ≤ 105; decide)) (by show 164 < 64 + 105; decide)) (by show 105 ≤ 106; decide)) (by show 164 < 64 + 106; decide)) (by show 106 ≤ 107; decide)) (by show 164 < 64 + 107; decide)) (by show 107 ≤ 108; decide)) (by show 164 < 64 + 108; decide)) (by decide) dX8_init_63 rfl ?_
  refine z_putR f_X8_31 ⟨zCl8, by decide, by decide, (fun _ => by show 164 < 64 + 109; decide)⟩ rfl (by decide) (Or.inr ⟨rfl, rfl, rfl, zin 998 (by decide +kernel) (by decide +kernel)⟩) rfl rfl dX8_init_65 rfl ?_
  refine z_aload_n (i := 0) dX8_init_68 rfl rfl rfl ?_
  refine z_bipush (v := (12 : Int32)) dX8_init_69 (by decide) rfl ?_
  refine z_newa (atype := .int) (n := 109) (kd := 20) (len := 12) (q := 173) rfl (fun _ _ h9 => h9) w_aI (by decide) (by decide) (by decide) (by decide) (by decide) rfl (by decide) rfl (by decide : 64 + 109 = 173) (zcln_R (zcln_N (zcln_R (zcln_N (zcln_R (zcln_N (zcln_R (zcln_N (zcln_R (zcln_N (zcln_R (zcln_N (zcln_R (zcln_N (zcln_R (zcln_N hC (by show s.2.2.2 ≤ 102; rw [hN]; decide)) (by show 164 < 64 + 102; decide)) (by show 102 ≤ 103; decide)) (by show 164 < 64 + 103; decide)) (by show 103 ≤ 104; decide)) (by show 164 < 64 + 104; decide)) (by show 104 ≤ 105; decide)) (by show 164 < 64 + 105; decide)) (by show 105 ≤ 106; decide)) (by show 164 < 64 + 106; decide)) (by show 106 ≤ 107; decide)) (by show 164 < 64 + 107; decide)) (by show 107 ≤ 108; decide)) (by show 164 < 64 + 108; decide)) (by show 108 ≤ 109; decide)) (by show 164 < 64 + 109; decide)) (by decide) dX8_init_71 rfl ?_
  refine z_putR f_X8_34 ⟨zCl8, by decide, by decide, (fun _ => by show 164 < 64 + 110; decide)⟩ rfl (by decide) (Or.inr ⟨rfl, rfl, rfl, zin 999 (by decide +kernel) (by decide +kernel)⟩) rfl rfl dX8_init_73 rfl ?_
  refine z_aload_n (i := 0) dX8_init_76 rfl rfl rfl ?_
  refine z_bipush (v := (12 : Int32)) dX8_init_77 (by decide) rfl ?_
  refine z_newa (atype := .int) (n := 110) (kd := 20) (len := 12) (q := 174) rfl (fun _ _ h9 => h9) w_aI (by decide) (by decide) (by decide) (by decide) (by decide) rfl (by decide) rfl (by decide : 64 + 110 = 174) (zcln_R (zcln_N (zcln_R (zcln_N (zcln_R (zcln_N (zcln_R (zcln_N (zcln_R (zcln_N (zcln_R (zcln_N (zcln_R (zcln_N (zcln_R (zcln_N (zcln_R (zcln_N hC (by show s.2.2.2 ≤ 102; rw [hN]; decide)) (by show 164 < 64 + 102; decide)) (by show 102 ≤ 103; decide)) (by show 164 < 64 + 103; decide)) (by show 103 ≤ 104; decide)) (by show 164 < 64 + 104; decide)) (by show 104 ≤ 105; decide)) (by show 164 < 64 + 105; decide)) (by show 105 ≤ 106; decide)) (by show 164 < 64 + 106; decide)) (by show 106 ≤ 107; decide)) (by show 164 < 64 + 107; decide)) (by show 107 ≤ 108; decide)) (by show 164 < 64 + 108; decide)) (by show 108 ≤ 109; decide)) (by show 164 < 64 + 109; decide)) (by show 109 ≤ 110; decide)) (by show 164 < 64 + 110; decide)) (by decide) dX8_init_79 rfl ?_
  refine z_putR f_X8_37 ⟨zCl8, by decide, by decide, (fun _ => by show 164 < 64 + 111; decide)⟩ rfl (by decide) (Or.inr ⟨rfl, rfl, rfl, zin 1000 (by decide +kernel) (by decide +kernel)⟩) rfl rfl dX8_init_81 rfl ?_
  refine z_aload_n (i := 0) dX8_init_84 rfl rfl rfl ?_
  refine z_bipush (v := (12 : Int32)) dX8_init_85 (by decide) rfl ?_
  refine z_newa (atype := .int) (n := 111) (kd := 20) (len := 12) (q := 175) rfl (fun _ _ h9 => h9) w_aI (by decide) (by decide) (by decide) (by decide) (by decide) rfl (by decide) rfl (by decide : 64 + 111 = 175) (zcln_R (zcln_N (zcln_R (zcln_N (zcln_R (zcln_N (zcln_R (zcln_N (zcln_R (zcln_N (zcln_R (zcln_N (zcln_R (zcln_N (zcln_R (zcln_N (zcln_R (zcln_N (zcln_R (zcln_N hC (by show s.2.2.2 ≤ 102; rw [hN]; decide)) (by show 164 < 64 + 102; decide)) (by show 102 ≤ 103; decide)) (by show 164 < 64 + 103; decide)) (by show 103 ≤ 104; decide)) (by show 164 < 64 + 104; decide)) (by show 104 ≤ 105; decide)) (by show 164 < 64 + 105; decide)) (by show 105 ≤ 106; decide)) (by show 164 < 64 + 106; decide)) (by show 106 ≤ 107; decide)) (by show 164 < 64 + 107; decide)) (by show 107 ≤ 108; decide)) (by show 164 < 64 + 108; decide)) (by show 108 ≤ 109; decide)) (by show 164 < 64 + 109; decide)) (by show 109 ≤ 110; decide)) (by show 164 < 64 + 110; decide)) (by show 110 ≤ 111; decide)) (by show 164 < 64 + 111; decide)) (by decide) dX8_init_87 rfl ?_
  refine z_putR f_X8_40 ⟨zCl8, by decide, by decide, (fun _ => by show 164 < 64 + 112; decide)⟩ rfl (by decide) (Or.inr ⟨rfl, rfl, rfl, zin 1001 (by decide +kernel) (by decide +kernel)⟩) rfl rfl dX8_init_89 rfl ?_
  refine z_aload_n (i := 0) dX8_init_92 rfl rfl rfl ?_
  refine z_bipush (v := (12 : Int32)) dX8_init_93 (by decide) rfl ?_
  refine z_newa (atype := .int) (n := 112) (kd := 20) (len := 12) (q := 176) rfl (fun _ _ h9 => h9) w_aI (by decide) (by decide) (by decide) (by decide) (by decide) rfl (by decide) rfl (by decide : 64 + 112 = 176) (zcln_R (zcln_N (zcln_R (zcln_N (zcln_R (zcln_N (zcln_R (zcln_N (zcln_R (zcln_N (zcln_R (zcln_N (zcln_R (zcln_N (zcln_R (zcln_N (zcln_R (zcln_N (zcln_R (zcln_N (zcln_R (zcln_N hC (by show s.2.2.2 ≤ 102; rw [hN]; decide)) (by show 164 < 64 + 102; decide)) (by show 102 ≤ 103; decide)) (by show 164 < 64 + 103; decide)) (by show 103 ≤ 104; decide)) (by show 164 < 64 + 104; decide)) (by show 104 ≤ 105; decide)) (by show 164 < 64 + 105; decide)) (by show 105 ≤ 106; decide)) (by show 164 < 64 + 106; decide)) (by show 106 ≤ 107; decide)) (by show 164 < 64 + 107; decide)) (by show 107 ≤ 108; decide)) (by show 164 < 64 + 108; decide)) (by show 108 ≤ 109; decide)) (by show 164 < 64 + 109; decide)) (by show 109 ≤ 110; decide)) (by show 164 < 64 + 110; decide)) (by show 110 ≤ 111; decide)) (by show 164 < 64 + 111; decide)) (by show 111 ≤ 112; decide)) (by show 164 < 64 + 112; decide)) (by decide) dX8_init_95 rfl ?_
  refine z_putR f_X8_43 ⟨zCl8, by decide, by decide, (fun _ => by show 164 < 64 + 113; decide)⟩ rfl (by decide) (Or.inr ⟨rfl, rfl, rfl, zin 1002 (by decide +kernel) (by decide +kernel)⟩) rfl rfl dX8_init_97 rfl ?_
  refine z_aload_n (i := 0) dX8_init_100 rfl rfl rfl ?_
  refine z_bipush (v := (12 : Int32)) dX8_init_101 (by decide) rfl ?_
  refine z_newa (atype := .int) (n := 113) (kd := 20) (len := 12) (q := 177) rfl (fun _ _ h9 => h9) w_aI (by decide) (by decide) (by decide) (by decide) (by decide) rfl (by decide) rfl (by decide : 64 + 113 = 177) (zcln_R (zcln_N (zcln_R (zcln_N (zcln_R (zcln_N (zcln_R (zcln_N (zcln_R (zcln_N (zcln_R (zcln_N (zcln_R (zcln_N (zcln_R (zcln_N (zcln_R (zcln_N (zcln_R (zcln_N (zcln_R (zcln_N (zcln_R (zcln_N hC (by show s.2.2.2 ≤ 102; rw [hN]; decide)) (by show 164 < 64 + 102; decide)) (by show 102 ≤ 103; decide)) (by show 164 < 64 + 103; decide)) (by show 103 ≤ 104; decide)) (by show 164 < 64 + 104; decide)) (by show 104 ≤ 105; decide)) (by show 164 < 64 + 105; decide)) (by show 105 ≤ 106; decide)) (by show 164 < 64 + 106; decide)) (by show 106 ≤ 107; decide)) (by show 164 < 64 + 107; decide)) (by show 107 ≤ 108; decide)) (by show 164 < 64 + 108; decide)) (by show 108 ≤ 109; decide)) (by show 164 < 64 + 109; decide)) (by show 109 ≤ 110; decide)) (by show 164 < 64 + 110; decide)) (by show 110 ≤ 111; decide)) (by show 164 < 64 + 111; decide)) (by show 111 ≤ 112; decide)) (by show 164 < 64 + 112; decide)) (by show 112 ≤ 113; decide)) (by show 164 < 64 + 113; decide)) (by decide) dX8_init_103 rfl ?_
  refine z_putR f_X8_46 ⟨zCl8, by decide, by decide, (fun _ => by show 164 < 64 + 114; decide)⟩ rfl (by decide) (Or.inr ⟨rfl, rfl, rfl, zin 1003 (by decide +kernel) (by decide +kernel)⟩) rfl rfl dX8_init_105 rfl ?_
  refine z_aload_n (i := 0) dX8_init_108 rfl rfl rfl ?_
  refine z_bipush (v := (12 : Int32)) dX8_init_109 (by decide) rfl ?_
  refine z_newa (atype := .int) (n := 114) (kd := 20) (len := 12) (q := 178) rfl (fun _ _ h9 => h9) w_aI (by decide) (by decide) (by decide) (by decide) (by decide) rfl (by decide) rfl (by decide : 64 + 114 = 178) (zcln_R (zcln_N (zcln_R (zcln_N (zcln_R (zcln_N (zcln_R (zcln_N (zcln_R (zcln_N (zcln_R (zcln_N (zcln_R (zcln_N (zcln_R (zcln_N (zcln_R (zcln_N (zcln_R (zcln_N (zcln_R (zcln_N (zcln_R (zcln_N (zcln_R (zcln_N hC (by show s.2.2.2 ≤ 102; rw [hN]; decide)) (by show 164 < 64 + 102; decide)) (by show 102 ≤ 103; decide)) (by show 164 < 64 + 103; decide)) (by show 103 ≤ 104; decide)) (by show 164 < 64 + 104; decide)) (by show 104 ≤ 105; decide)) (by show 164 < 64 + 105; decide)) (by show 105 ≤ 106; decide)) (by show 164 < 64 + 106; decide)) (by show 106 ≤ 107; decide)) (by show 164 < 64 + 107; decide)) (by show 107 ≤ 108; decide)) (by show 164 < 64 + 108; decide)) (by show 108 ≤ 109; decide)) (by show 164 < 64 + 109; decide)) (by show 109 ≤ 110; decide)) (by show 164 < 64 + 110; decide)) (by show 110 ≤ 111; decide)) (by show 164 < 64 + 111; decide)) (by show 111 ≤ 112; decide)) (by show 164 < 64 + 112; decide)) (by show 112 ≤ 113; decide)) (by show 164 < 64 + 113; decide)) (by show 113 ≤ 114; decide)) (by show 164 < 64 + 114; decide)) (by decide) dX8_init_111 rfl ?_
  refine z_putR f_X8_49 ⟨zCl8, by decide, by decide, (fun _ => by show 164 < 64 + 115; decide)⟩ rfl (by decide) (Or.inr ⟨rfl, rfl, rfl, zin 1004 (by decide +kernel) (by decide +kernel)⟩) rfl rfl dX8_init_113 rfl ?_
  refine z_aload_n (i := 0) dX8_init_116 rfl rfl rfl ?_
  refine z_bipush (v := (12 : Int32)) dX8_init_117 (by decide) rfl ?_
  refine z_newa (atype := .int) (n := 115) (kd := 20) (len := 12) (q := 179) rfl (fun _ _ h9 => h9) w_aI (by decide) (by decide) (by decide) (by decide) (by decide) rfl (by decide) rfl (by decide : 64 + 115 = 179) (zcln_R (zcln_N (zcln_R (zcln_N (zcln_R (zcln_N (zcln_R (zcln_N (zcln_R (zcln_N (zcln_R (zcln_N (zcln_R (zcln_N (zcln_R (zcln_N (zcln_R (zcln_N (zcln_R (zcln_N (zcln_R (zcln_N (zcln_R (zcln_N (zcln_R (zcln_N (zcln_R (zcln_N hC (by show s.2.2.2 ≤ 102; rw [hN]; decide)) (by show 164 < 64 + 102; decide)) (by show 102 ≤ 103; decide)) (by show 164 < 64 + 103; decide)) (by show 103 ≤ 104; decide)) (by show 164 < 64 + 104; decide)) (by show 104 ≤ 105; decide)) (by show 164 < 64 + 105; decide)) (by show 105 ≤ 106; decide)) (by show 164 < 64 + 106; decide)) (by show 106 ≤ 107; decide)) (by show 164 < 64 + 107; decide)) (by show 107 ≤ 108; decide)) (by show 164 < 64 + 108; decide)) (by show 108 ≤ 109; decide)) (by show 164 < 64 + 109; decide)) (by show 109 ≤ 110; decide)) (by show 164 < 64 + 110; decide)) (by show 110 ≤ 111; decide)) (by show 164 < 64 + 111; decide)) (by show 111 ≤ 112; decide)) (by show 164 < 64 + 112; decide)) (by show 112 ≤ 113; decide)) (by show 164 < 64 + 113; decide)) (by show 113 ≤ 114; decide)) (by show 164 < 64 + 114; decide)) (by show 114 ≤ 115; decide)) (by show 164 < 64 + 115; decide)) (by decide) dX8_init_119 rfl ?_
  refine z_putR f_X8_52 ⟨zCl8, by decide, by decide, (fun _ => by show 164 < 64 + 116; decide)⟩ rfl (by decide) (Or.inr ⟨rfl, rfl, rfl, zin 1005 (by decide +kernel) (by decide +kernel)⟩) rfl rfl dX8_init_121 rfl ?_
  refine z_aload_n (i := 0) dX8_init_124 rfl rfl rfl ?_
  refine z_bipush (v := (12 : Int32)) dX8_init_125 (by decide) rfl ?_
  refine z_newa (atype := .int) (n := 116) (kd := 20) (len := 12) (q := 180) rfl (fun _ _ h9 => h9) w_aI (by decide) (by decide) (by decide) (by decide) (by decide) rfl (by decide) rfl (by decide : 64 + 116 = 180) (zcln_R (zcln_N (zcln_R (zcln_N (zcln_R (zcln_N (zcln_R (zcln_N (zcln_R (zcln_N (zcln_R (zcln_N (zcln_R (zcln_N (zcln_R (zcln_N (zcln_R (zcln_N (zcln_R (zcln_N (zcln_R (zcln_N (zcln_R (zcln_N (zcln_R (zcln_N (zcln_R (zcln_N (zcln_R (zcln_N hC (by show s.2.2.2 ≤ 102; rw [hN]; decide)) (by show 164 < 64 + 102; decide)) (by show 102 ≤ 103; decide)) (by show 164 < 64 + 103; decide)) (by show 103 ≤ 104; decide)) (by show 164 < 64 + 104; decide)) (by show 104 ≤ 105; decide)) (by show 164 < 64 + 105; decide)) (by show 105 ≤ 106; decide)) (by show 164 < 64 + 106; decide)) (by show 106 ≤ 107; decide)) (by show 164 < 64 + 107; decide)) (by show 107 ≤ 108; decide)) (by show 164 < 64 + 108; decide)) (by show 108 ≤ 109; decide)) (by show 164 < 64 + 109; decide)) (by show 109 ≤ 110; decide)) (by show 164 < 64 + 110; decide)) (by show 110 ≤ 111; decide)) (by show 164 < 64 + 111; decide)) (by show 111 ≤ 112; decide)) (by show 164 < 64 + 112; decide)) (by show 112 ≤ 113; decide)) (by show 164 < 64 + 113; decide)) (by show 113 ≤ 114; decide)) (by show 164 < 64 + 114; decide)) (by show 114 ≤ 115; decide)) (by show 164 < 64 + 115; decide)) (by show 115 ≤ 116; decide)) (by show 164 < 64 + 116; decide)) (by decide) dX8_init_127 rfl ?_
  refine z_putR f_X8_55 ⟨zCl8, by decide, by decide, (fun _ => by show 164 < 64 + 117; decide)⟩ rfl (by decide) (Or.inr ⟨rfl, rfl, rfl, zin 1006 (by decide +kernel) (by decide +kernel)⟩) rfl rfl dX8_init_129 rfl ?_
  refine z_aload_n (i := 0) dX8_init_132 rfl rfl rfl ?_
  refine z_bipush (v := (12 : Int32)) dX8_init_133 (by decide) rfl ?_
  refine z_newa (atype := .int) (n := 117) (kd := 20) (len := 12) (q := 181) rfl (fun _ _ h9 => h9) w_aI (by decide) (by decide) (by decide) (by decide) (by decide) rfl (by decide) rfl (by decide : 64 + 117 = 181) (zcln_R (zcln_N (zcln_R (zcln_N (zcln_R (zcln_N (zcln_R (zcln_N (zcln_R (zcln_N (zcln_R (zcln_N (zcln_R (zcln_N (zcln_R (zcln_N (zcln_R (zcln_N (zcln_R (zcln_N (zcln_R (zcln_N (zcln_R (zcln_N (zcln_R (zcln_N (zcln_R (zcln_N (zcln_R (zcln_N (zcln_R (zcln_N hC (by show s.2.2.2 ≤ 102; rw [hN]; decide)) (by show 164 < 64 + 102; decide)) (by show 102 ≤ 103; decide)) (by show 164 < 64 + 103; decide)) (by show 103 ≤ 104; decide)) (by show 164 < 64 + 104; decide)) (by show 104 ≤ 105; decide)) (by show 164 < 64 + 105; decide)) (by show 105 ≤ 106; decide)) (by show 164 < 64 + 106; decide)) (by show 106 ≤ 107; decide)) (by show 164 < 64 + 107; decide)) (by show 107 ≤ 108; decide)) (by show 164 < 64 + 108; decide)) (by show 108 ≤ 109; decide)) (by show 164 < 64 + 109; decide)) (by show 109 ≤ 110; decide)) (by show 164 < 64 + 110; decide)) (by show 110 ≤ 111; decide)) (by show 164 < 64 + 111; decide)) (by show 111 ≤ 112; decide)) (by show 164 < 64 + 112; decide)) (by show 112 ≤ 113; decide)) (by show 164 < 64 + 113; decide)) (by show 113 ≤ 114; decide)) (by show 164 < 64 + 114; decide)) (by show 114 ≤ 115; decide)) (by show 164 < 64 + 115; decide)) (by show 115 ≤ 116; decide)) (by show 164 < 64 + 116; decide)) (by show 116 ≤ 117; decide)) (by show 164 < 64 + 117; decide)) (by decide) dX8_init_135 rfl ?_
  refine z_putR f_X8_58 ⟨zCl8, by decide, by decide, (fun _ => by show 164 < 64 + 118; decide)⟩ rfl (by decide) (Or.inr ⟨rfl, rfl, rfl, zin 1007 (by decide +kernel) (by decide +kernel)⟩) rfl rfl dX8_init_137 rfl ?_
  refine z_aload_n (i := 0) dX8_init_140 rfl rfl rfl ?_
  refine z_bipush (v := (60 : Int32)) dX8_init_141 (by decide) rfl ?_
  refine z_bipush (v := (9 : Int32)) dX8_init_143 (by decide) rfl ?_
  refine z_mna (n := 118) (q := 182) (a := 60) (b := 9) cl_X8_61 w_aI (by decide) (by decide) (by decide) (by decide) (by decide) (by decide) (by decide) (by decide) (by decide) rfl (by decide : 64 + 118 = 182) (zcln_R (zcln_N (zcln_R (zcln_N (zcln_R (zcln_N (zcln_R (zcln_N (zcln_R (zcln_N (zcln_R (zcln_N (zcln_R (zcln_N (zcln_R (zcln_N (zcln_R (zcln_N (zcln_R (zcln_N (zcln_R (zcln_N (zcln_R (zcln_N (zcln_R (zcln_N (zcln_R (zcln_N (zcln_R (zcln_N (zcln_R (zcln_N (zcln_R (zcln_N hC (by show s.2.2.2 ≤ 102; rw [hN]; decide)) (by show 164 < 64 + 102; decide)) (by show 102 ≤ 103; decide)) (by show 164 < 64 + 103; decide)) (by show 103 ≤ 104; decide)) (by show 164 < 64 + 104; decide)) (by show 104 ≤ 105; decide)) (by show 164 < 64 + 105; decide)) (by show 105 ≤ 106; decide)) (by show 164 < 64 + 106; decide)) (by show 106 ≤ 107; decide)) (by show 164 < 64 + 107; decide)) (by show 107 ≤ 108; decide)) (by show 164 < 64 + 108; decide)) (by show 108 ≤ 109; decide)) (by show 164 < 64 + 109; decide)) (by show 109 ≤ 110; decide)) (by show 164 < 64 + 110; decide)) (by show 110 ≤ 111; decide)) (by show 164 < 64 + 111; decide)) (by show 111 ≤ 112; decide)) (by show 164 < 64 + 112; decide)) (by show 112 ≤ 113; decide)) (by show 164 < 64 + 113; decide)) (by show 113 ≤ 114; decide)) (by show 164 < 64 + 114; decide)) (by show 114 ≤ 115; decide)) (by show 164 < 64 + 115; decide)) (by show 115 ≤ 116; decide)) (by show 164 < 64 + 116; decide)) (by show 116 ≤ 117; decide)) (by show 164 < 64 + 117; decide)) (by show 117 ≤ 118; decide)) (by show 164 < 64 + 118; decide)) (by decide) dX8_init_145 rfl ?_
  refine z_putR f_X8_63 ⟨zCl8, by decide, by decide, (fun _ => by show 164 < 64 + 179; decide)⟩ rfl (by decide) (Or.inr ⟨rfl, rfl, rfl, zin 1014 (by decide +kernel) (by decide +kernel)⟩) rfl rfl dX8_init_149 rfl ?_
  refine z_aload_n (i := 0) dX8_init_152 rfl rfl rfl ?_
  refine z_bipush (v := (8 : Int32)) dX8_init_153 (by decide) rfl ?_
  refine z_putI f_X8_66 ⟨zCl8, by decide, by decide, (fun _ => by show 164 < 64 + 179; decide)⟩ rfl (Or.inl rfl) rfl rfl dX8_init_155 rfl ?_
  refine z_aload_n (i := 0) dX8_init_158 rfl rfl rfl ?_
  refine z_bipush (v := (20 : Int32)) dX8_init_159 (by decide) rfl ?_
  refine z_putI f_X8_70 ⟨zCl8, by decide, by decide, (fun _ => by show 164 < 64 + 179; decide)⟩ rfl (Or.inl rfl) rfl rfl dX8_init_161 rfl ?_
  refine z_aload_n (i := 0) dX8_init_164 rfl rfl rfl ?_
  refine z_bipush (v := (60 : Int32)) dX8_init_165 (by decide) rfl ?_
  refine z_newa (atype := .int) (n := 179) (kd := 20) (len := 60) (q := 243) rfl (fun _ _ h9 => h9) w_aI (by decide) (by decide) (by decide) (by decide) (by decide) rfl (by decide) rfl (by decide : 64 + 179 = 243) (zcln_I (zcln_I (zcln_R (zcln_M (zcln_R (zcln_N (zcln_R (zcln_N (zcln_R (zcln_N (zcln_R (zcln_N (zcln_R (zcln_N (zcln_R (zcln_N (zcln_R (zcln_N (zcln_R (zcln_N (zcln_R (zcln_N (zcln_R (zcln_N (zcln_R (zcln_N (zcln_R (zcln_N (zcln_R (zcln_N (zcln_R (zcln_N (zcln_R (zcln_N (zcln_R (zcln_N (zcln_R (zcln_N hC (by show s.2.2.2 ≤ 102; rw [hN]; decide)) (by show 164 < 64 + 102; decide)) (by show 102 ≤ 103; decide)) (by show 164 < 64 + 103; decide)) (by show 103 ≤ 104; decide)) (by show 164 < 64 + 104; decide)) (by show 104 ≤ 105; decide)) (by show 164 < 64 + 105; decide)) (by show 105 ≤ 106; decide)) (by show 164 < 64 + 106; decide)) (by show 106 ≤ 107; decide)) (by show 164 < 64 + 107; decide)) (by show 107 ≤ 108; decide)) (by show 164 < 64 + 108; decide)) (by show 108 ≤ 109; decide)) (by show 164 < 64 + 109; decide)) (by show 109 ≤ 110; decide)) (by show 164 < 64 + 110; decide)) (by show 110 ≤ 111; decide)) (by show 164 < 64 + 111; decide)) (by show 111 ≤ 112; decide)) (by show 164 < 64 + 112; decide)) (by show 112 ≤ 113; decide)) (by show 164 < 64 + 113; decide)) (by show 113 ≤ 114; decide)) (by show 164 < 64 + 114; decide)) (by show 114 ≤ 115; decide)) (by show 164 < 64 + 115; decide)) (by show 115 ≤ 116; decide)) (by show 164 < 64 + 116; decide)) (by show 116 ≤ 117; decide)) (by show 164 < 64 + 117; decide)) (by show 117 ≤ 118; decide)) (by show 164 < 64 + 118; decide)) rfl (by decide)) (by show 164 < 64 + 179; decide)) (by show 164 < 64 + 179; decide)) (by show 164 < 64 + 179; decide)) (by decide) dX8_init_167 rfl ?_
  refine z_putR f_X8_73 ⟨zCl8, by decide, by decide, (fun _ => by show 164 < 64 + 180; decide)⟩ rfl (by decide) (Or.inr ⟨rfl, rfl, rfl, zin 1018 (by decide +kernel) (by decide +kernel)⟩) rfl rfl dX8_init_169 rfl ?_
  refine z_aload_n (i := 0) dX8_init_172 rfl rfl rfl ?_
  refine z_sipush (v := (400 : Int32)) dX8_init_173 (by decide) rfl ?_
  refine z_newa (atype := .byte) (n := 180) (kd := 21) (len := 400) (q := 244) rfl (fun _ _ h9 => h9) w_aB (by decide) (by decide) (by decide) (by decide) (by decide) rfl (by decide) rfl (by decide : 64 + 180 = 244) (zcln_R (zcln_N (zcln_I (zcln_I (zcln_R (zcln_M (zcln_R (zcln_N (zcln_R (zcln_N (zcln_R (zcln_N (zcln_R (zcln_N (zcln_R (zcln_N (zcln_R (zcln_N (zcln_R (zcln_N (zcln_R (zcln_N (zcln_R (zcln_N (zcln_R (zcln_N (zcln_R (zcln_N (zcln_R (zcln_N (zcln_R (zcln_N (zcln_R (zcln_N (zcln_R (zcln_N (zcln_R (zcln_N (zcln_R (zcln_N hC (by show s.2.2.2 ≤ 102; rw [hN]; decide)) (by show 164 < 64 + 102; decide)) (by show 102 ≤ 103; decide)) (by show 164 < 64 + 103; decide)) (by show 103 ≤ 104; decide)) (by show 164 < 64 + 104; decide)) (by show 104 ≤ 105; decide)) (by show 164 < 64 + 105; decide)) (by show 105 ≤ 106; decide)) (by show 164 < 64 + 106; decide)) (by show 106 ≤ 107; decide)) (by show 164 < 64 + 107; decide)) (by show 107 ≤ 108; decide)) (by show 164 < 64 + 108; decide)) (by show 108 ≤ 109; decide)) (by show 164 < 64 + 109; decide)) (by show 109 ≤ 110; decide)) (by show 164 < 64 + 110; decide)) (by show 110 ≤ 111; decide)) (by show 164 < 64 + 111; decide)) (by show 111 ≤ 112; decide)) (by show 164 < 64 + 112; decide)) (by show 112 ≤ 113; decide)) (by show 164 < 64 + 113; decide)) (by show 113 ≤ 114; decide)) (by show 164 < 64 + 114; decide)) (by show 114 ≤ 115; decide)) (by show 164 < 64 + 115; decide)) (by show 115 ≤ 116; decide)) (by show 164 < 64 + 116; decide)) (by show 116 ≤ 117; decide)) (by show 164 < 64 + 117; decide)) (by show 117 ≤ 118; decide)) (by show 164 < 64 + 118; decide)) rfl (by decide)) (by show 164 < 64 + 179; decide)) (by show 164 < 64 + 179; decide)) (by show 164 < 64 + 179; decide)) (by show 179 ≤ 180; decide)) (by show 164 < 64 + 180; decide)) (by decide) dX8_init_176 rfl ?_
  refine z_putR f_X8_76 ⟨zCl8, by decide, by decide, (fun _ => by show 164 < 64 + 181; decide)⟩ rfl (by decide) (Or.inr ⟨rfl, rfl, rfl, zin 1019 (by decide +kernel) (by decide +kernel)⟩) rfl rfl dX8_init_178 rfl ?_
  refine z_aload_n (i := 0) dX8_init_181 rfl rfl rfl ?_
  refine z_iconst (v := (2 : Int32)) dX8_init_182 (by decide) rfl ?_
  refine z_sipush (v := (420 : Int32)) dX8_init_183 (by decide) rfl ?_
  refine z_mna (n := 181) (q := 245) (a := 2) (b := 420) cl_X8_61 w_aI (by decide) (by decide) (by decide) (by decide) (by decide) (by decide) (by decide) (by decide) (by decide) rfl (by decide : 64 + 181 = 245) (zcln_R (zcln_N (zcln_R (zcln_N (zcln_I (zcln_I (zcln_R (zcln_M (zcln_R (zcln_N (zcln_R (zcln_N (zcln_R (zcln_N (zcln_R (zcln_N (zcln_R (zcln_N (zcln_R (zcln_N (zcln_R (zcln_N (zcln_R (zcln_N (zcln_R (zcln_N (zcln_R (zcln_N (zcln_R (zcln_N (zcln_R (zcln_N (zcln_R (zcln_N (zcln_R (zcln_N (zcln_R (zcln_N (zcln_R (zcln_N (zcln_R (zcln_N hC (by show s.2.2.2 ≤ 102; rw [hN]; decide)) (by show 164 < 64 + 102; decide)) (by show 102 ≤ 103; decide)) (by show 164 < 64 + 103; decide)) (by show 103 ≤ 104; decide)) (by show 164 < 64 + 104; decide)) (by show 104 ≤ 105; decide)) (by show 164 < 64 + 105; decide)) (by show 105 ≤ 106; decide)) (by show 164 < 64 + 106; decide)) (by show 106 ≤ 107; decide)) (by show 164 < 64 + 107; decide)) (by show 107 ≤ 108; decide)) (by show 164 < 64 + 108; decide)) (by show 108 ≤ 109; decide)) (by show 164 < 64 + 109; decide)) (by show 109 ≤ 110; decide)) (by show 164 < 64 + 110; decide)) (by show 110 ≤ 111; decide)) (by show 164 < 64 + 111; decide)) (by show 111 ≤ 112; decide)) (by show 164 < 64 + 112; decide)) (by show 112 ≤ 113; decide)) (by show 164 < 64 + 113; decide)) (by show 113 ≤ 114; decide)) (by show 164 < 64 + 114; decide)) (by show 114 ≤ 115; decide)) (by show 164 < 64 + 115; decide)) (by show 115 ≤ 116; decide)) (by show 164 < 64 + 116; decide)) (by show 116 ≤ 117; decide)) (by show 164 < 64 + 117; decide)) (by show 117 ≤ 118; decide)) (by show 164 < 64 + 118; decide)) rfl (by decide)) (by show 164 < 64 + 179; decide)) (by show 164 < 64 + 179; decide)) (by show 164 < 64 + 179; decide)) (by show 179 ≤ 180; decide)) (by show 164 < 64 + 180; decide)) (by show 180 ≤ 181; decide)) (by show 164 < 64 + 181; decide)) (by decide) dX8_init_186 rfl ?_
  refine z_putR f_X8_80 ⟨zCl8, by decide, by decide, (fun _ => by show 164 < 64 + 184; decide)⟩ rfl (by decide) (Or.inr ⟨rfl, rfl, rfl, zin 1024 (by decide +kernel) (by decide +kernel)⟩) rfl rfl dX8_init_190 rfl ?_
  refine z_aload_n (i := 0) dX8_init_193 rfl rfl rfl ?_
  refine z_iconst (v := (2 : Int32)) dX8_init_194 (by decide) rfl ?_
  refine z_bipush (v := (13 : Int32)) dX8_init_195 (by decide) rfl ?_
  refine z_mna (n := 184) (q := 248) (a := 2) (b := 13) cl_X8_61 w_aI (by decide) (by decide) (by decide) (by decide) (by decide) (by decide) (by decide) (by decide) (by decide) rfl (by decide : 64 + 184 = 248) (zcln_R (zcln_M (zcln_R (zcln_N (zcln_R (zcln_N (zcln_I (zcln_I (zcln_R (zcln_M (zcln_R (zcln_N (zcln_R (zcln_N (zcln_R (zcln_N (zcln_R (zcln_N (zcln_R (zcln_N (zcln_R (zcln_N (zcln_R (zcln_N (zcln_R (zcln_N (zcln_R (zcln_N (zcln_R (zcln_N (zcln_R (zcln_N (zcln_R (zcln_N (zcln_R (zcln_N (zcln_R (zcln_N (zcln_R (zcln_N (zcln_R (zcln_N (zcln_R (zcln_N hC (by show s.2.2.2 ≤ 102; rw [hN]; decide)) (by show 164 < 64 + 102; decide)) (by show 102 ≤ 103; decide)) (by show 164 < 64 + 103; decide)) (by show 103 ≤ 104; decide)) (by show 164 < 64 + 104; decide)) (by show 104 ≤ 105; decide)) (by show 164 < 64 + 105; decide)) (by show 105 ≤ 106; decide)) (by show 164 < 64 + 106; decide)) (by show 106 ≤ 107; decide)) (by show 164 < 64 + 107; decide)) (by show 107 ≤ 108; decide)) (by show 164 < 64 + 108; decide)) (by show 108 ≤ 109; decide)) (by show 164 < 64 + 109; decide)) (by show 109 ≤ 110; decide)) (by show 164 < 64 + 110; decide)) (by show 110 ≤ 111; decide)) (by show 164 < 64 + 111; decide)) (by show 111 ≤ 112; decide)) (by show 164 < 64 + 112; decide)) (by show 112 ≤ 113; decide)) (by show 164 < 64 + 113; decide)) (by show 113 ≤ 114; decide)) (by show 164 < 64 + 114; decide)) (by show 114 ≤ 115; decide)) (by show 164 < 64 + 115; decide)) (by show 115 ≤ 116; decide)) (by show 164 < 64 + 116; decide)) (by show 116 ≤ 117; decide)) (by show 164 < 64 + 117; decide)) (by show 117 ≤ 118; decide)) (by show 164 < 64 + 118; decide)) rfl (by decide)) (by show 164 < 64 + 179; decide)) (by show 164 < 64 + 179; decide)) (by show 164 < 64 + 179; decide)) (by show 179 ≤ 180; decide)) (by show 164 < 64 + 180; decide)) (by show 180 ≤ 181; decide)) (by show 164 < 64 + 181; decide)) rfl (by decide)) (by show 164 < 64 + 184; decide)) (by decide) dX8_init_197 rfl ?_
  refine z_putR f_X8_83 ⟨zCl8, by decide, by decide, (fun _ => by show 164 < 64 + 187; decide)⟩ rfl (by decide) (Or.inr ⟨rfl, rfl, rfl, zin 1025 (by decide +kernel) (by decide +kernel)⟩) rfl rfl dX8_init_201 rfl ?_
  refine z_aload_n (i := 0) dX8_init_204 rfl rfl rfl ?_
  refine z_iconst (v := (2 : Int32)) dX8_init_205 (by decide) rfl ?_
  refine z_bipush (v := (13 : Int32)) dX8_init_206 (by decide) rfl ?_
  refine z_mna (n := 187) (q := 251) (a := 2) (b := 13) cl_X8_61 w_aI (by decide) (by decide) (by decide) (by decide) (by decide) (by decide) (by decide) (by decide) (by decide) rfl (by decide : 64 + 187 = 251) (zcln_R (zcln_M (zcln_R (zcln_M (zcln_R (zcln_N (zcln_R (zcln_N (zcln_I (zcln_I (zcln_R (zcln_M (zcln_R (zcln_N (zcln_R (zcln_N (zcln_R (zcln_N (zcln_R (zcln_N (zcln_R (zcln_N (zcln_R (zcln_N (zcln_R (zcln_N (zcln_R (zcln_N (zcln_R (zcln_N (zcln_R (zcln_N (zcln_R (zcln_N (zcln_R (zcln_N (zcln_R (zcln_N (zcln_R (zcln_N (zcln_R (zcln_N (zcln_R (zcln_N (zcln_R (zcln_N hC (by show s.2.2.2 ≤ 102; rw [hN]; decide)) (by show 164 < 64 + 102; decide)) (by show 102 ≤ 103; decide)) (by show 164 < 64 + 103; decide)) (by show 103 ≤ 104; decide)) (by show 164 < 64 + 104; decide)) (by show 104 ≤ 105; decide)) (by show 164 < 64 + 105; decide)) (by show 105 ≤ 106; decide)) (by show 164 < 64 + 106; decide)) (by show 106 ≤ 107; decide)) (by show 164 < 64 + 107; decide)) (by show 107 ≤ 108; decide)) (by show 164 < 64 + 108; decide)) (by show 108 ≤ 109; decide)) (by show 164 < 64 + 109; decide)) (by show 109 ≤ 110; decide)) (by show 164 < 64 + 110; decide)) (by show 110 ≤ 111; decide)) (by show 164 < 64 + 111; decide)) (by show 111 ≤ 112; decide)) (by show 164 < 64 + 112; decide)) (by show 112 ≤ 113; decide)) (by show 164 < 64 + 113; decide)) (by show 113 ≤ 114; decide)) (by show 164 < 64 + 114; decide)) (by show 114 ≤ 115; decide)) (by show 164 < 64 + 115; decide)) (by show 115 ≤ 116; decide)) (by show 164 < 64 + 116; decide)) (by show 116 ≤ 117; decide)) (by show 164 < 64 + 117; decide)) (by show 117 ≤ 118; decide)) (by show 164 < 64 + 118; decide)) rfl (by decide)) (by show 164 < 64 + 179; decide)) (by show 164 < 64 + 179; decide)) (by show 164 < 64 + 179; decide)) (by show 179 ≤ 180; decide)) (by show 164 < 64 + 180; decide)) (by show 180 ≤ 181; decide)) (by show 164 < 64 + 181; decide)) rfl (by decide)) (by show 164 < 64 + 184; decide)) rfl (by decide)) (by show 164 < 64 + 187; decide)) (by decide) dX8_init_208 rfl ?_
  refine z_putR f_X8_86 ⟨zCl8, by decide, by decide, (fun _ => by show 164 < 64 + 190; decide)⟩ rfl (by decide) (Or.inr ⟨rfl, rfl, rfl, zin 1026 (by decide +kernel) (by decide +kernel)⟩) rfl rfl dX8_init_212 rfl ?_
  refine z_aload_n (i := 0) dX8_init_215 rfl rfl rfl ?_
  refine z_iconst (v := (2 : Int32)) dX8_init_216 (by decide) rfl ?_
  refine z_bipush (v := (13 : Int32)) dX8_init_217 (by decide) rfl ?_
  refine z_mna (n := 190) (q := 254) (a := 2) (b := 13) cl_X8_61 w_aI (by decide) (by decide) (by decide) (by decide) (by decide) (by decide) (by decide) (by decide) (by decide) rfl (by decide : 64 + 190 = 254) (zcln_R (zcln_M (zcln_R (zcln_M (zcln_R (zcln_M (zcln_R (zcln_N (zcln_R (zcln_N (zcln_I (zcln_I (zcln_R (zcln_M (zcln_R (zcln_N (zcln_R (zcln_N (zcln_R (zcln_N (zcln_R (zcln_N (zcln_R (zcln_N (zcln_R (zcln_N (zcln_R (zcln_N (zcln_R (zcln_N (zcln_R (zcln_N (zcln_R (zcln_N (zcln_R (zcln_N (zcln_R (zcln_N (zcln_R (zcln_N (zcln_R (zcln_N (zcln_R (zcln_N (zcln_R (zcln_N (zcln_R (zcln_N hC (by show s.2.2.2 ≤ 102; rw [hN]; decide)) (by show 164 < 64 + 102; decide)) (by show 102 ≤ 103; decide)) (by show 164 < 64 + 103; decide)) (by show 103 ≤ 104; decide)) (by show 164 < 64 + 104; decide)) (by show 104 ≤ 105; decide)) (by show 164 < 64 + 105; decide)) (by show 105 ≤ 106; decide)) (by show 164 < 64 + 106; decide)) (by show 106 ≤ 107; decide)) (by show 164 < 64 + 107; decide)) (by show 107 ≤ 108; decide)) (by show 164 < 64 + 108; decide)) (by show 108 ≤ 109; decide)) (by show 164 < 64 + 109; decide)) (by show 109 ≤ 110; decide)) (by show 164 < 64 + 110; decide)) (by show 110 ≤ 111; decide)) (by show 164 < 64 + 111; decide)) (by show 111 ≤ 112; decide)) (by show 164 < 64 + 112; decide)) (by show 112 ≤ 113; decide)) (by show 164 < 64 + 113; decide)) (by show 113 ≤ 114; decide)) (by show 164 < 64 + 114; decide)) (by show 114 ≤ 115; decide)) (by show 164 < 64 + 115; decide)) (by show 115 ≤ 116; decide)) (by show 164 < 64 + 116; decide)) (by show 116 ≤ 117; decide)) (by show 164 < 64 + 117; decide)) (by show 117 ≤ 118; decide)) (by show 164 < 64 + 118; decide)) rfl (by decide)) (by show 164 < 64 + 179; decide)) (by show 164 < 64 + 179; decide)) (by show 164 < 64 + 179; decide)) (by show 179 ≤ 180; decide)) (by show 164 < 64 + 180; decide)) (by show 180 ≤ 181; decide)) (by show 164 < 64 + 181; decide)) rfl (by decide)) (by show 164 < 64 + 184; decide)) rfl (by decide)) (by show 164 < 64 + 187; decide)) rfl (by decide)) (by show 164 < 64 + 190; decide)) (by decide) dX8_init_219 rfl ?_
  refine z_putR f_X8_89 ⟨zCl8, by decide, by decide, (fun _ => by show 164 < 64 + 193; decide)⟩ rfl (by decide) (Or.inr ⟨rfl, rfl, rfl, zin 1027 (by decide +kernel) (by decide +kernel)⟩) rfl rfl dX8_init_223 rfl ?_
  refine z_aload_n (i := 0) dX8_init_226 rfl rfl rfl ?_
  refine z_iconst (v := (2 : Int32)) dX8_init_227 (by decide) rfl ?_
  refine z_newa (atype := .int) (n := 193) (kd := 20) (len := 2) (q := 257) rfl (fun _ _ h9 => h9) w_aI (by decide) (by decide) (by decide) (by decide) (by decide) rfl (by decide) rfl (by decide : 64 + 193 = 257) (zcln_R (zcln_M (zcln_R (zcln_M (zcln_R (zcln_M (zcln_R (zcln_M (zcln_R (zcln_N (zcln_R (zcln_N (zcln_I (zcln_I (zcln_R (zcln_M (zcln_R (zcln_N (zcln_R (zcln_N (zcln_R (zcln_N (zcln_R (zcln_N (zcln_R (zcln_N (zcln_R (zcln_N (zcln_R (zcln_N (zcln_R (zcln_N (zcln_R (zcln_N (zcln_R (zcln_N (zcln_R (zcln_N (zcln_R (zcln_N (zcln_R (zcln_N (zcln_R (zcln_N (zcln_R (zcln_N (zcln_R (zcln_N (zcln_R (zcln_N hC (by show s.2.2.2 ≤ 102; rw [hN]; decide)) (by show 164 < 64 + 102; decide)) (by show 102 ≤ 103; decide)) (by show 164 < 64 + 103; decide)) (by show 103 ≤ 104; decide)) (by show 164 < 64 + 104; decide)) (by show 104 ≤ 105; decide)) (by show 164 < 64 + 105; decide)) (by show 105 ≤ 106; decide)) (by show 164 < 64 + 106; decide)) (by show 106 ≤ 107; decide)) (by show 164 < 64 + 107; decide)) (by show 107 ≤ 108; decide)) (by show 164 < 64 + 108; decide)) (by show 108 ≤ 109; decide)) (by show 164 < 64 + 109; decide)) (by show 109 ≤ 110; decide)) (by show 164 < 64 + 110; decide)) (by show 110 ≤ 111; decide)) (by show 164 < 64 + 111; decide)) (by show 111 ≤ 112; decide)) (by show 164 < 64 + 112; decide)) (by show 112 ≤ 113; decide)) (by show 164 < 64 + 113; decide)) (by show 113 ≤ 114; decide)) (by show 164 < 64 + 114; decide)) (by show 114 ≤ 115; decide)) (by show 164 < 64 + 115; decide)) (by show 115 ≤ 116; decide)) (by show 164 < 64 + 116; decide)) (by show 116 ≤ 117; decide)) (by show 164 < 64 + 117; decide)) (by show 117 ≤ 118; decide)) (by show 164 < 64 + 118; decide)) rfl (by decide)) (by show 164 < 64 + 179; decide)) (by show 164 < 64 + 179; decide)) (by show 164 < 64 + 179; decide)) (by show 179 ≤ 180; decide)) (by show 164 < 64 + 180; decide)) (by show 180 ≤ 181; decide)) (by show 164 < 64 + 181; decide)) rfl (by decide)) (by show 164 < 64 + 184; decide)) rfl (by decide)) (by show 164 < 64 + 187; decide)) rfl (by decide)) (by show 164 < 64 + 190; decide)) rfl (by decide)) (by show 164 < 64 + 193; decide)) (by decide) dX8_init_228 rfl ?_
  refine z_putR f_X8_92 ⟨zCl8, by decide, by decide, (fun _ => by show 164 < 64 + 194; decide)⟩ rfl (by decide) (Or.inr ⟨rfl, rfl, rfl, zin 1028 (by decide +kernel) (by decide +kernel)⟩) rfl rfl dX8_init_230 rfl ?_
  refine z_aload_n (i := 0) dX8_init_233 rfl rfl rfl ?_
  refine z_iconst (v := (2 : Int32)) dX8_init_234 (by decide) rfl ?_
  refine z_newa (atype := .int) (n := 194) (kd := 20) (len := 2) (q := 258) rfl (fun _ _ h9 => h9) w_aI (by decide) (by decide) (by decide) (by decide) (by decide) rfl (by decide) rfl (by decide : 64 + 194 = 258) (zcln_R (zcln_N (zcln_R (zcln_M (zcln_R (zcln_M (zcln_R (zcln_M (zcln_R (zcln_M (zcln_R (zcln_N (zcln_R (zcln_N (zcln_I (zcln_I (zcln_R (zcln_M (zcln_R (zcln_N (zcln_R (zcln_N (zcln_R (zcln_N (zcln_R (zcln_N (zcln_R (zcln_N (zcln_R (zcln_N (zcln_R (zcln_N (zcln_R (zcln_N (zcln_R (zcln_N (zcln_R (zcln_N (zcln_R (zcln_N (zcln_R (zcln_N (zcln_R (zcln_N (zcln_R (zcln_N (zcln_R (zcln_N (zcln_R (zcln_N (zcln_R (zcln_N hC (by show s.2.2.2 ≤ 102; rw [hN]; decide)) (by show 164 < 64 + 102; decide)) (by show 102 ≤ 103; decide)) (by show 164 < 64 + 103; decide)) (by show 103 ≤ 104; decide)) (by show 164 < 64 + 104; decide)) (by show 104 ≤ 105; decide)) (by show 164 < 64 + 105; decide)) (by show 105 ≤ 106; decide)) (by show 164 < 64 + 106; decide)) (by show 106 ≤ 107; decide)) (by show 164 < 64 + 107; decide)) (by show 107 ≤ 108; decide)) (by show 164 < 64 + 108; decide)) (by show 108 ≤ 109; decide)) (by show 164 < 64 + 109; decide)) (by show 109 ≤ 110; decide)) (by show 164 < 64 + 110; decide)) (by show 110 ≤ 111; decide)) (by show 164 < 64 + 111; decide)) (by show 111 ≤ 112; decide)) (by show 164 < 64 + 112; decide)) (by show 112 ≤ 113; decide)) (by show 164 < 64 + 113; decide)) (by show 113 ≤ 114; decide)) (by show 164 < 64 + 114; decide)) (by show 114 ≤ 115; decide)) (by show 164 < 64 + 115; decide)) (by show 115 ≤ 116; decide)) (by show 164 < 64 + 116; decide)) (by show 116 ≤ 117; decide)) (by show 164 < 64 + 117; decide)) (by show 117 ≤ 118; decide)) (by show 164 < 64 + 118; decide)) rfl (by decide)) (by show 164 < 64 + 179; decide)) (by show 164 < 64 + 179; decide)) (by show 164 < 64 + 179; decide)) (by show 179 ≤ 180; decide)) (by show 164 < 64 + 180; decide)) (by show 180 ≤ 181; decide)) (by show 164 < 64 + 181; decide)) rfl (by decide)) (by show 164 < 64 + 184; decide)) rfl (by decide)) (by show 164 < 64 + 187; decide)) rfl (by decide)) (by show 164 < 64 + 190; decide)) rfl (by decide)) (by show 164 < 64 + 193; decide)) (by show 193 ≤ 194; decide)) (by show 164 < 64 + 194; decide)) (by decide) dX8_init_235 rfl ?_
  refine z_putR f_X8_95 ⟨zCl8, by decide, by decide, (fun _ => by show 164 < 64 + 195; decide)⟩ rfl (by decide) (Or.inr ⟨rfl, rfl, rfl, zin 1029 (by decide +kernel) (by decide +kernel)⟩) rfl rfl dX8_init_237 rfl ?_
  refine z_aload_n (i := 0) dX8_init_240 rfl rfl rfl ?_
  refine z_iconst (v := (2 : Int32)) dX8_init_241 (by decide) rfl ?_
  refine z_newa (atype := .boolean) (n := 195) (kd := 22) (len := 2) (q := 259) rfl (fun _ _ h9 => h9) w_aZ (by decide) (by decide) (by decide) (by decide) (by decide) rfl (by decide) rfl (by decide : 64 + 195 = 259) (zcln_R (zcln_N (zcln_R (zcln_N (zcln_R (zcln_M (zcln_R (zcln_M (zcln_R (zcln_M (zcln_R (zcln_M (zcln_R (zcln_N (zcln_R (zcln_N (zcln_I (zcln_I (zcln_R (zcln_M (zcln_R (zcln_N (zcln_R (zcln_N (zcln_R (zcln_N (zcln_R (zcln_N (zcln_R (zcln_N (zcln_R (zcln_N (zcln_R (zcln_N (zcln_R (zcln_N (zcln_R (zcln_N (zcln_R (zcln_N (zcln_R (zcln_N (zcln_R (zcln_N (zcln_R (zcln_N (zcln_R (zcln_N (zcln_R (zcln_N (zcln_R (zcln_N (zcln_R (zcln_N hC (by show s.2.2.2 ≤ 102; rw [hN]; decide)) (by show 164 < 64 + 102; decide)) (by show 102 ≤ 103; decide)) (by show 164 < 64 + 103; decide)) (by show 103 ≤ 104; decide)) (by show 164 < 64 + 104; decide)) (by show 104 ≤ 105; decide)) (by show 164 < 64 + 105; decide)) (by show 105 ≤ 106; decide)) (by show 164 < 64 + 106; decide)) (by show 106 ≤ 107; decide)) (by show 164 < 64 + 107; decide)) (by show 107 ≤ 108; decide)) (by show 164 < 64 + 108; decide)) (by show 108 ≤ 109; decide)) (by show 164 < 64 + 109; decide)) (by show 109 ≤ 110; decide)) (by show 164 < 64 + 110; decide)) (by show 110 ≤ 111; decide)) (by show 164 < 64 + 111; decide)) (by show 111 ≤ 112; decide)) (by show 164 < 64 + 112; decide)) (by show 112 ≤ 113; decide)) (by show 164 < 64 + 113; decide)) (by show 113 ≤ 114; decide)) (by show 164 < 64 + 114; decide)) (by show 114 ≤ 115; decide)) (by show 164 < 64 + 115; decide)) (by show 115 ≤ 116; decide)) (by show 164 < 64 + 116; decide)) (by show 116 ≤ 117; decide)) (by show 164 < 64 + 117; decide)) (by show 117 ≤ 118; decide)) (by show 164 < 64 + 118; decide)) rfl (by decide)) (by show 164 < 64 + 179; decide)) (by show 164 < 64 + 179; decide)) (by show 164 < 64 + 179; decide)) (by show 179 ≤ 180; decide)) (by show 164 < 64 + 180; decide)) (by show 180 ≤ 181; decide)) (by show 164 < 64 + 181; decide)) rfl (by decide)) (by show 164 < 64 + 184; decide)) rfl (by decide)) (by show 164 < 64 + 187; decide)) rfl (by decide)) (by show 164 < 64 + 190; decide)) rfl (by decide)) (by show 164 < 64 + 193; decide)) (by show 193 ≤ 194; decide)) (by show 164 < 64 + 194; decide)) (by show 194 ≤ 195; decide)) (by show 164 < 64 + 195; decide)) (by decide) dX8_init_242 rfl ?_
  refine z_putR f_X8_98 ⟨zCl8, by decide, by decide, (fun _ => by show 164 < 64 + 196; decide)⟩ rfl (by decide) (Or.inr ⟨rfl, rfl, rfl, zin 1030 (by decide +kernel) (by decide +kernel)⟩) rfl rfl dX8_init_244 rfl ?_
  refine z_aload_n (i := 0) dX8_init_247 rfl rfl rfl ?_
  refine z_sipush (v := (420 : Int32)) dX8_init_248 (by decide) rfl ?_
  refine z_newa (atype := .int) (n := 196) (kd := 20) (len := 420) (q := 260) rfl (fun _ _ h9 => h9) w_aI (by decide) (by decide) (by decide) (by decide) (by decide) rfl (by decide) rfl (by decide : 64 + 196 = 260) (zcln_R (zcln_N (zcln_R (zcln_N (zcln_R (zcln_N (zcln_R (zcln_M (zcln_R (zcln_M (zcln_R (zcln_M (zcln_R (zcln_M (zcln_R (zcln_N (zcln_R (zcln_N (zcln_I (zcln_I (zcln_R (zcln_M (zcln_R (zcln_N (zcln_R (zcln_N (zcln_R (zcln_N (zcln_R (zcln_N (zcln_R (zcln_N (zcln_R (zcln_N (zcln_R (zcln_N (zcln_R (zcln_N (zcln_R (zcln_N (zcln_R (zcln_N (zcln_R (zcln_N (zcln_R (zcln_N (zcln_R (zcln_N (zcln_R (zcln_N (zcln_R (zcln_N (zcln_R (zcln_N (zcln_R (zcln_N hC (by show s.2.2.2 ≤ 102; rw [hN]; decide)) (by show 164 < 64 + 102; decide)) (by show 102 ≤ 103; decide)) (by show 164 < 64 + 103; decide)) (by show 103 ≤ 104; decide)) (by show 164 < 64 + 104; decide)) (by show 104 ≤ 105; decide)) (by show 164 < 64 + 105; decide)) (by show 105 ≤ 106; decide)) (by show 164 < 64 + 106; decide)) (by show 106 ≤ 107; decide)) (by show 164 < 64 + 107; decide)) (by show 107 ≤ 108; decide)) (by show 164 < 64 + 108; decide)) (by show 108 ≤ 109; decide)) (by show 164 < 64 + 109; decide)) (by show 109 ≤ 110; decide)) (by show 164 < 64 + 110; decide)) (by show 110 ≤ 111; decide)) (by show 164 < 64 + 111; decide)) (by show 111 ≤ 112; decide)) (by show 164 < 64 + 112; decide)) (by show 112 ≤ 113; decide)) (by show 164 < 64 + 113; decide)) (by show 113 ≤ 114; decide)) (by show 164 < 64 + 114; decide)) (by show 114 ≤ 115; decide)) (by show 164 < 64 + 115; decide)) (by show 115 ≤ 116; decide)) (by show 164 < 64 + 116; decide)) (by show 116 ≤ 117; decide)) (by show 164 < 64 + 117; decide)) (by show 117 ≤ 118; decide)) (by show 164 < 64 + 118; decide)) rfl (by decide)) (by show 164 < 64 + 179; decide)) (by show 164 < 64 + 179; decide)) (by show 164 < 64 + 179; decide)) (by show 179 ≤ 180; decide)) (by show 164 < 64 + 180; decide)) (by show 180 ≤ 181; decide)) (by show 164 < 64 + 181; decide)) rfl (by decide)) (by show 164 < 64 + 184; decide)) rfl (by decide)) (by show 164 < 64 + 187; decide)) rfl (by decide)) (by show 164 < 64 + 190; decide)) rfl (by decide)) (by show 164 < 64 + 193; decide)) (by show 193 ≤ 194; decide)) (by show 164 < 64 + 194; decide)) (by show 194 ≤ 195; decide)) (by show 164 < 64 + 195; decide)) (by show 195 ≤ 196; decide)) (by show 164 < 64 + 196; decide)) (by decide) dX8_init_251 rfl ?_
  refine z_putR f_X8_102 ⟨zCl8, by decide, by decide, (fun _ => by show 164 < 64 + 197; decide)⟩ rfl (by decide) (Or.inr ⟨rfl, rfl, rfl, zin 1031 (by decide +kernel) (by decide +kernel)⟩) rfl rfl dX8_init_253 rfl ?_
  refine z_aload_n (i := 0) dX8_init_256 rfl rfl rfl ?_
  refine z_bipush (v := (7 : Int32)) dX8_init_257 (by decide) rfl ?_
  refine z_newa (atype := .int) (n := 197) (kd := 20) (len := 7) (q := 261) rfl (fun _ _ h9 => h9) w_aI (by decide) (by decide) (by decide) (by decide) (by decide) rfl (by decide) rfl (by decide : 64 + 197 = 261) (zcln_R (zcln_N (zcln_R (zcln_N (zcln_R (zcln_N (zcln_R (zcln_N (zcln_R (zcln_M (zcln_R (zcln_M (zcln_R (zcln_M (zcln_R (zcln_M (zcln_R (zcln_N (zcln_R (zcln_N (zcln_I (zcln_I (zcln_R (zcln_M (zcln_R (zcln_N (zcln_R (zcln_N (zcln_R (zcln_N (zcln_R (zcln_N (zcln_R (zcln_N (zcln_R (zcln_N (zcln_R (zcln_N (zcln_R (zcln_N (zcln_R (zcln_N (zcln_R (zcln_N (zcln_R (zcln_N (zcln_R (zcln_N (zcln_R (zcln_N (zcln_R (zcln_N (zcln_R (zcln_N (zcln_R (zcln_N (zcln_R (zcln_N hC (by show s.2.2.2 ≤ 102; rw [hN]; decide)) (by show 164 < 64 + 102; decide)) (by show 102 ≤ 103; decide)) (by show 164 < 64 + 103; decide)) (by show 103 ≤ 104; decide)) (by show 164 < 64 + 104; decide)) (by show 104 ≤ 105; decide)) (by show 164 < 64 + 105; decide)) (by show 105 ≤ 106; decide)) (by show 164 < 64 + 106; decide)) (by show 106 ≤ 107; decide)) (by show 164 < 64 + 107; decide)) (by show 107 ≤ 108; decide)) (by show 164 < 64 + 108; decide)) (by show 108 ≤ 109; decide)) (by show 164 < 64 + 109; decide)) (by show 109 ≤ 110; decide)) (by show 164 < 64 + 110; decide)) (by show 110 ≤ 111; decide)) (by show 164 < 64 + 111; decide)) (by show 111 ≤ 112; decide)) (by show 164 < 64 + 112; decide)) (by show 112 ≤ 113; decide)) (by show 164 < 64 + 113; decide)) (by show 113 ≤ 114; decide)) (by show 164 < 64 + 114; decide)) (by show 114 ≤ 115; decide)) (by show 164 < 64 + 115; decide)) (by show 115 ≤ 116; decide)) (by show 164 < 64 + 116; decide)) (by show 116 ≤ 117; decide)) (by show 164 < 64 + 117; decide)) (by show 117 ≤ 118; decide)) (by show 164 < 64 + 118; decide)) rfl (by decide)) (by show 164 < 64 + 179; decide)) (by show 164 < 64 + 179; decide)) (by show 164 < 64 + 179; decide)) (by show 179 ≤ 180; decide)) (by show 164 < 64 + 180; decide)) (by show 180 ≤ 181; decide)) (by show 164 < 64 + 181; decide)) rfl (by decide)) (by show 164 < 64 + 184; decide)) rfl (by decide)) (by show 164 < 64 + 187; decide)) rfl (by decide)) (by show 164 < 64 + 190; decide)) rfl (by decide)) (by show 164 < 64 + 193; decide)) (by show 193 ≤ 194; decide)) (by show 164 < 64 + 194; decide)) (by show 194 ≤ 195; decide)) (by show 164 < 64 + 195; decide)) (by show 195 ≤ 196; decide)) (by show 164 < 64 + 196; decide)) (by show 196 ≤ 197; decide)) (by show 164 < 64 + 197; decide)) (by decide) dX8_init_259 rfl ?_
  refine z_putR f_X8_105 ⟨zCl8, by decide, by decide, (fun _ => by show 164 < 64 + 198; decide)⟩ rfl (by decide) (Or.inr ⟨rfl, rfl, rfl, zin 1032 (by decide +kernel) (by decide +kernel)⟩) rfl rfl dX8_init_261 rfl ?_
  refine z_aload_n (i := 0) dX8_init_264 rfl rfl rfl ?_
  refine z_bipush (v := (7 : Int32)) dX8_init_265 (by decide) rfl ?_
  refine z_anew (n := 198) (kd := 26) (len := 7) (q := 262) rfl (fun _ h => h.2.2.1) cl_X8_108 (by decide) (by decide) (by decide) (by decide) (by decide) (by decide) rfl (by decide : 64 + 198 = 262) (zcln_R (zcln_N (zcln_R (zcln_N (zcln_R (zcln_N (zcln_R (zcln_N (zcln_R (zcln_N (zcln_R (zcln_M (zcln_R (zcln_M (zcln_R (zcln_M (zcln_R (zcln_M (zcln_R (zcln_N (zcln_R (zcln_N (zcln_I (zcln_I (zcln_R (zcln_M (zcln_R (zcln_N (zcln_R (zcln_N (zcln_R (zcln_N (zcln_R (zcln_N (zcln_R (zcln_N (zcln_R (zcln_N (zcln_R (zcln_N (zcln_R (zcln_N (zcln_R (zcln_N (zcln_R (zcln_N (zcln_R (zcln_N (zcln_R (zcln_N (zcln_R (zcln_N (zcln_R (zcln_N (zcln_R (zcln_N (zcln_R (zcln_N (zcln_R (zcln_N hC (by show s.2.2.2 ≤ 102; rw [hN]; decide)) (by show 164 < 64 + 102; decide)) (by show 102 ≤ 103; decide)) (by show 164 < 64 + 103; decide)) (by show 103 ≤ 104; decide)) (by show 164 < 64 + 104; decide)) (by show 104 ≤ 105; decide)) (by show 164 < 64 + 105; decide)) (by show 105 ≤ 106; decide)) (by show 164 < 64 + 106; decide)) (by show 106 ≤ 107; decide)) (by show 164 < 64 + 107; decide)) (by show 107 ≤ 108; decide)) (by show 164 < 64 + 108; decide)) (by show 108 ≤ 109; decide)) (by show 164 < 64 + 109; decide)) (by show 109 ≤ 110; decide)) (by show 164 < 64 + 110; decide)) (by show 110 ≤ 111; decide)) (by show 164 < 64 + 111; decide)) (by show 111 ≤ 112; decide)) (by show 164 < 64 + 112; decide)) (by show 112 ≤ 113; decide)) (by show 164 < 64 + 113; decide)) (by show 113 ≤ 114; decide)) (by show 164 < 64 + 114; decide)) (by show 114 ≤ 115; decide)) (by show 164 < 64 + 115; decide)) (by show 115 ≤ 116; decide)) (by show 164 < 64 + 116; decide)) (by show 116 ≤ 117; decide)) (by show 164 < 64 + 117; decide)) (by show 117 ≤ 118; decide)) (by show 164 < 64 + 118; decide)) rfl (by decide)) (by show 164 < 64 + 179; decide)) (by show 164 < 64 + 179; decide)) (by show 164 < 64 + 179; decide)) (by show 179 ≤ 180; decide)) (by show 164 < 64 + 180; decide)) (by show 180 ≤ 181; decide)) (by show 164 < 64 + 181; decide)) rfl (by decide)) (by show 164 < 64 + 184; decide)) rfl (by decide)) (by show 164 < 64 + 187; decide)) rfl (by decide)) (by show 164 < 64 + 190; decide)) rfl (by decide)) (by show 164 < 64 + 193; decide)) (by show 193 ≤ 194; decide)) (by show 164 < 64 + 194; decide)) (by show 194 ≤ 195; decide)) (by show 164 < 64 + 195; decide)) (by show 195 ≤ 196; decide)) (by show 164 < 64 + 196; decide)) (by show 196 ≤ 197; decide)) (by show 164 < 64 + 197; decide)) (by show 197 ≤ 198; decide)) (by show 164 < 64 + 198; decide)) (by decide) dX8_init_267 rfl ?_
  refine z_dup dX8_init_270 rfl rfl ?_
  refine z_iconst (v := (0 : Int32)) dX8_init_271 (by decide) rfl ?_
  refine z_ldcS (i := 2) (by decide) rfl rfl dX8_init_272 rfl ?_
  refine z_aastS (n := 7) ⟨by decide, by decide, by decide, (fun _ => by show 262 < 64 + 199; decide)⟩ (by unfold vp_in; decide) (by decide) dX8_init_274 rfl ?_
  refine z_dup dX8_init_275 rfl rfl ?_
  refine z_iconst (v := (1 : Int32)) dX8_init_276 (by decide) rfl ?_
  refine z_ldcS (i := 3) (by decide) rfl rfl dX8_init_277 rfl ?_
  refine z_aastS (n := 7) ⟨by decide, by decide, by decide, (fun _ => by show 262 < 64 + 199; decide)⟩ (by unfold vp_in; decide) (by decide) dX8_init_279 rfl ?_
  refine z_dup dX8_init_280 rfl rfl ?_
  refine z_iconst (v := (2 : Int32)) dX8_init_281 (by decide) rfl ?_
  refine z_ldcS (i := 4) (by decide) rfl rfl dX8_init_282 rfl ?_
  refine z_aastS (n := 7) ⟨by decide, by decide, by decide, (fun _ => by show 262 < 64 + 199; decide)⟩ (by unfold vp_in; decide) (by decide) dX8_init_284 rfl ?_
  refine z_dup dX8_init_285 rfl rfl ?_
  refine z_iconst (v := (3 : Int32)) dX8_init_286 (by decide) rfl ?_
  refine z_ldcS (i := 5) (by decide) rfl rfl dX8_init_287 rfl ?_
  refine z_aastS (n := 7) ⟨by decide, by decide, by decide, (fun _ => by show 262 < 64 + 199; decide)⟩ (by unfold vp_in; decide) (by decide) dX8_init_289 rfl ?_
  refine z_dup dX8_init_290 rfl rfl ?_
  refine z_iconst (v := (4 : Int32)) dX8_init_291 (by decide) rfl ?_
  refine z_ldcS (i := 6) (by decide) rfl rfl dX8_init_292 rfl ?_
  refine z_aastS (n := 7) ⟨by decide, by decide, by decide, (fun _ => by show 262 < 64 + 199; decide)⟩ (by unfold vp_in; decide) (by decide) dX8_init_294 rfl ?_
  refine z_dup dX8_init_295 rfl rfl ?_
  refine z_iconst (v := (5 : Int32)) dX8_init_296 (by decide) rfl ?_
  refine z_ldcS (i := 7) (by decide) rfl rfl dX8_init_297 rfl ?_
  refine z_aastS (n := 7) ⟨by decide, by decide, by decide, (fun _ => by show 262 < 64 + 199; decide)⟩ (by unfold vp_in; decide) (by decide) dX8_init_299 rfl ?_
  refine z_dup dX8_init_300 rfl rfl ?_
  refine z_bipush (v := (6 : Int32)) dX8_init_301 (by decide) rfl ?_
  refine z_ldcS (i := 8) (by decide) rfl rfl dX8_init_303 rfl ?_
  refine z_aastS (n := 7) ⟨by decide, by decide, by decide, (fun _ => by show 262 < 64 + 199; decide)⟩ (by unfold vp_in; decide) (by decide) dX8_init_305 rfl ?_
  refine z_putR f_X8_124 ⟨zCl8, by decide, by decide, (fun _ => by show 164 < 64 + 199; decide)⟩ rfl (by decide) (Or.inr ⟨rfl, rfl, rfl, zin 1033 (by decide +kernel) (by decide +kernel)⟩) rfl rfl dX8_init_306 rfl ?_
  refine z_aload_n (i := 0) dX8_init_309 rfl rfl rfl ?_
  refine z_bipush (v := (7 : Int32)) dX8_init_310 (by decide) rfl ?_
  refine z_anew (n := 199) (kd := 26) (len := 7) (q := 263) rfl (fun _ h => h.2.2.1) cl_X8_108 (by decide) (by decide) (by decide) (by decide) (by decide) (by decide) rfl (by decide : 64 + 199 = 263) (zcln_R (zcln_R (zcln_R (zcln_R (zcln_R (zcln_R (zcln_R (zcln_R (zcln_N (zcln_R (zcln_N (zcln_R (zcln_N (zcln_R (zcln_N (zcln_R (zcln_N (zcln_R (zcln_N (zcln_R (zcln_M (zcln_R (zcln_M (zcln_R (zcln_M (zcln_R (zcln_M (zcln_R (zcln_N (zcln_R (zcln_N (zcln_I (zcln_I (zcln_R (zcln_M (zcln_R (zcln_N (zcln_R (zcln_N (zcln_R (zcln_N (zcln_R (zcln_N (zcln_R (zcln_N (zcln_R (zcln_N (zcln_R (zcln_N (zcln_R (zcln_N (zcln_R (zcln_N (zcln_R (zcln_N (zcln_R (zcln_N (zcln_R (zcln_N (zcln_R (zcln_N (zcln_R (zcln_N (zcln_R (zcln_N (zcln_R (zcln_N (zcln_R (zcln_N hC (by show s.2.2.2 ≤ 102; rw [hN]; decide)) (by show 164 < 64 + 102; decide)) (by show 102 ≤ 103; decide)) (by show 164 < 64 + 103; decide)) (by show 103 ≤ 104; decide)) (by show 164 < 64 + 104; decide)) (by show 104 ≤ 105; decide)) (by show 164 < 64 + 105; decide)) (by show 105 ≤ 106; decide)) (by show 164 < 64 + 106; decide)) (by show 106 ≤ 107; decide)) (by show 164 < 64 + 107; decide)) (by show 107 ≤ 108; decide)) (by show 164 < 64 + 108; decide)) (by show 108 ≤ 109; decide)) (by show 164 < 64 + 109; decide)) (by show 109 ≤ 110; decide)) (by show 164 < 64 + 110; decide)) (by show 110 ≤ 111; decide)) (by show 164 < 64 + 111; decide)) (by show 111 ≤ 112; decide)) (by show 164 < 64 + 112; decide)) (by show 112 ≤ 113; decide)) (by show 164 < 64 + 113; decide)) (by show 113 ≤ 114; decide)) (by show 164 < 64 + 114; decide)) (by show 114 ≤ 115; decide)) (by show 164 < 64 + 115; decide)) (by show 115 ≤ 116; decide)) (by show 164 < 64 + 116; decide)) (by show 116 ≤ 117; decide)) (by show 164 < 64 + 117; decide)) (by show 117 ≤ 118; decide)) (by show 164 < 64 + 118; decide)) rfl (by decide)) (by show 164 < 64 + 179; decide)) (by show 164 < 64 + 179; decide)) (by show 164 < 64 + 179; decide)) (by show 179 ≤ 180; decide)) (by show 164 < 64 + 180; decide)) (by show 180 ≤ 181; decide)) (by show 164 < 64 + 181; decide)) rfl (by decide)) (by show 164 < 64 + 184; decide)) rfl (by decide)) (by show 164 < 64 + 187; decide)) rfl (by decide)) (by show 164 < 64 + 190; decide)) rfl (by decide)) (by show 164 < 64 + 193; decide)) (by show 193 ≤ 194; decide)) (by show 164 < 64 + 194; decide)) (by show 194 ≤ 195; decide)) (by show 164 < 64 + 195; decide)) (by show 195 ≤ 196; decide)) (by show 164 < 64 + 196; decide)) (by show 196 ≤ 197; decide)) (by show 164 < 64 + 197; decide)) (by show 197 ≤ 198; decide)) (by show 164 < 64 + 198; decide)) (by show 198 ≤ 199; decide)) (by show 262 < 64 + 199; decide)) (by show 262 < 64 + 199; decide)) (by show 262 < 64 + 199; decide)) (by show 262 < 64 + 199; decide)) (by show 262 < 64 + 199; decide)) (by show 262 < 64 + 199; decide)) (by show 262 < 64 + 199; decide)) (by show 164 < 64 + 199; decide)) (by decide) dX8_init_312 rfl ?_
  refine z_dup dX8_init_315 rfl rfl ?_
  refine z_iconst (v := (0 : Int32)) dX8_init_316 (by decide) rfl ?_
  refine z_ldcS (i := 9) (by decide) rfl rfl dX8_init_317 rfl ?_
  refine z_aastS (n := 7) ⟨by decide, by decide, by decide, (fun _ => by show 263 < 64 + 200; decide)⟩ (by unfold vp_in; decide) (by decide) dX8_init_319 rfl ?_
  refine z_dup dX8_init_320 rfl rfl ?_
  refine z_iconst (v := (1 : Int32)) dX8_init_321 (by decide) rfl ?_
  refine z_ldcS (i := 10) (by decide) rfl rfl dX8_init_322 rfl ?_
  refine z_aastS (n := 7) ⟨by decide, by decide, by decide, (fun _ => by show 263 < 64 + 200; decide)⟩ (by unfold vp_in; decide) (by decide) dX8_init_324 rfl ?_
  refine z_dup dX8_init_325 rfl rfl ?_
  refine z_iconst (v := (2 : Int32)) dX8_init_326 (by decide) rfl ?_
  refine z_ldcS (i := 11) (by decide) rfl rfl dX8_init_327 rfl ?_
  refine z_aastS (n := 7) ⟨by decide, by decide, by decide, (fun _ => by show 263 < 64 + 200; decide)⟩ (by unfold vp_in; decide) (by decide) dX8_init_329 rfl ?_
  refine z_dup dX8_init_330 rfl rfl ?_
  refine z_iconst (v := (3 : Int32)) dX8_init_331 (by decide) rfl ?_
  refine z_ldcS (i := 12) (by decide) rfl rfl dX8_init_332 rfl ?_
  refine z_aastS (n := 7) ⟨by decide, by decide, by decide, (fun _ => by show 263 < 64 + 200; decide)⟩ (by unfold vp_in; decide) (by decide) dX8_init_334 rfl ?_
  refine z_dup dX8_init_335 rfl rfl ?_
  refine z_iconst (v := (4 : Int32)) dX8_init_336 (by decide) rfl ?_
  refine z_ldcS (i := 13) (by decide) rfl rfl dX8_init_337 rfl ?_
  refine z_aastS (n := 7) ⟨by decide, by decide, by decide, (fun _ => by show 263 < 64 + 200; decide)⟩ (by unfold vp_in; decide) (by decide) dX8_init_339 rfl ?_
  refine z_dup dX8_init_340 rfl rfl ?_
  refine z_iconst (v := (5 : Int32)) dX8_init_341 (by decide) rfl ?_
  refine z_ldcS (i := 14) (by decide) rfl rfl dX8_init_342 rfl ?_
  refine z_aastS (n := 7) ⟨by decide, by decide, by decide, (fun _ => by show 263 < 64 + 200; decide)⟩ (by unfold vp_in; decide) (by decide) dX8_init_344 rfl ?_
  refine z_dup dX8_init_345 rfl rfl ?_
  refine z_bipush (v := (6 : Int32)) dX8_init_346 (by decide) rfl ?_
  refine z_ldcS (i := 15) (by decide) rfl rfl dX8_init_348 rfl ?_
  refine z_aastS (n := 7) ⟨by decide, by decide, by decide, (fun _ => by show 263 < 64 + 200; decide)⟩ (by unfold vp_in; decide) (by decide) dX8_init_350 rfl ?_
  refine z_putR f_X8_142 ⟨zCl8, by decide, by decide, (fun _ => by show 164 < 64 + 200; decide)⟩ rfl (by decide) (Or.inr ⟨rfl, rfl, rfl, zin 1034 (by decide +kernel) (by decide +kernel)⟩) rfl rfl dX8_init_351 rfl ?_
  exact z_ret none (Or.inl ⟨rfl, rfl, dX8_init_354⟩) (fun _ _ => rfl) ⟨rfl, h⟩
theorem dL_law_0 : decode cL_law 0 = .ok (.new 7, 3) := by decide +kernel
theorem dL_law_3 : decode cL_law 3 = .ok (.dup, 1) := by decide +kernel
theorem dL_law_4 : decode cL_law 4 = .ok (.invokespecial 9, 3) := by decide +kernel
theorem dL_law_7 : decode cL_law 7 = .ok (.astore_n 1, 1) := by decide +kernel
theorem dL_law_8 : decode cL_law 8 = .ok (.new 10, 3) := by decide +kernel
theorem dL_law_11 : decode cL_law 11 = .ok (.dup, 1) := by decide +kernel
theorem dL_law_12 : decode cL_law 12 = .ok (.invokespecial 12, 3) := by decide +kernel
theorem dL_law_15 : decode cL_law 15 = .ok (.astore_n 2, 1) := by decide +kernel
theorem dL_law_16 : decode cL_law 16 = .ok (.iconst 0, 1) := by decide +kernel
theorem dL_law_17 : decode cL_law 17 = .ok (.istore_n 3, 1) := by decide +kernel
theorem dL_law_18 : decode cL_law 18 = .ok (.iload_n 3, 1) := by decide +kernel
theorem dL_law_19 : decode cL_law 19 = .ok (.aload_n 0, 1) := by decide +kernel
theorem dL_law_20 : decode cL_law 20 = .ok (.arraylength, 1) := by decide +kernel
theorem dL_law_21 : decode cL_law 21 = .ok (.bipush 6, 2) := by decide +kernel
theorem dL_law_23 : decode cL_law 23 = .ok (.isub, 1) := by decide +kernel
theorem dL_law_24 : decode cL_law 24 = .ok (.if_icmp .gt 1364, 3) := by decide +kernel
theorem dL_law_27 : decode cL_law 27 = .ok (.aload_n 0, 1) := by decide +kernel
theorem dL_law_28 : decode cL_law 28 = .ok (.iload_n 3, 1) := by decide +kernel
theorem dL_law_29 : decode cL_law 29 = .ok (.iaload, 1) := by decide +kernel
theorem dL_law_30 : decode cL_law 30 = .ok (.bipush 31, 2) := by decide +kernel
theorem dL_law_32 : decode cL_law 32 = .ok (.iand, 1) := by decide +kernel
theorem dL_law_33 : decode cL_law 33 = .ok (.tableswitch 1349 0 31 #[143, 186, 209, 252, 315, 368, 421, 444, 487, 540, 603, 616, 649, 682, 715, 738, 751, 784, 827, 860, 913, 966, 999, 1022, 1085, 1108, 1121, 1134, 1187, 1240, 1293, 1326], 143) := by decide +kernel
theorem dL_law_176 : decode cL_law 176 = .ok (.aload_n 1, 1) := by decide +kernel
theorem dL_law_177 : decode cL_law 177 = .ok (.aload_n 0, 1) := by decide +kernel
theorem dL_law_178 : decode cL_law 178 = .ok (.iload_n 3, 1) := by decide +kernel
theorem dL_law_179 : decode cL_law 179 = .ok (.iconst 1, 1) := by decide +kernel
theorem dL_law_180 : decode cL_law 180 = .ok (.iadd, 1) := by decide +kernel
theorem dL_law_181 : decode cL_law 181 = .ok (.iaload, 1) := by decide +kernel
theorem dL_law_182 : decode cL_law 182 = .ok (.aload_n 0, 1) := by decide +kernel
theorem dL_law_183 : decode cL_law 183 = .ok (.iload_n 3, 1) := by decide +kernel
theorem dL_law_184 : decode cL_law 184 = .ok (.iconst 2, 1) := by decide +kernel
theorem dL_law_185 : decode cL_law 185 = .ok (.iadd, 1) := by decide +kernel
theorem dL_law_186 : decode cL_law 186 = .ok (.iaload, 1) := by decide +kernel
theorem dL_law_187 : decode cL_law 187 = .ok (.aload_n 0, 1) := by decide +kernel
theorem dL_law_188 : decode cL_law 188 = .ok (.iload_n 3, 1) := by decide +kernel
theorem dL_law_189 : decode cL_law 189 = .ok (.iconst 3, 1) := by decide +kernel
theorem dL_law_190 : decode cL_law 190 = .ok (.iadd, 1) := by decide +kernel
theorem dL_law_191 : decode cL_law 191 = .ok (.iaload, 1) := by decide +kernel
theorem dL_law_192 : decode cL_law 192 = .ok (.invokevirtual 13, 3) := by decide +kernel
theorem dL_law_195 : decode cL_law 195 = .ok (.aload_n 2, 1) := by decide +kernel
theorem dL_law_196 : decode cL_law 196 = .ok (.aload_n 0, 1) := by decide +kernel
theorem dL_law_197 : decode cL_law 197 = .ok (.iload_n 3, 1) := by decide +kernel
theorem dL_law_198 : decode cL_law 198 = .ok (.iconst 1, 1) := by decide +kernel
theorem dL_law_199 : decode cL_law 199 = .ok (.iadd, 1) := by decide +kernel
theorem dL_law_200 : decode cL_law 200 = .ok (.iaload, 1) := by decide +kernel
theorem dL_law_201 : decode cL_law 201 = .ok (.aload_n 0, 1) := by decide +kernel
theorem dL_law_202 : decode cL_law 202 = .ok (.iload_n 3, 1) := by decide +kernel
theorem dL_law_203 : decode cL_law 203 = .ok (.iconst 2, 1) := by decide +kernel
theorem dL_law_204 : decode cL_law 204 = .ok (.iadd, 1) := by decide +kernel
theorem dL_law_205 : decode cL_law 205 = .ok (.iaload, 1) := by decide +kernel
theorem dL_law_206 : decode cL_law 206 = .ok (.aload_n 0, 1) := by decide +kernel
theorem dL_law_207 : decode cL_law 207 = .ok (.iload_n 3, 1) := by decide +kernel
theorem dL_law_208 : decode cL_law 208 = .ok (.iconst 3, 1) := by decide +kernel
theorem dL_law_209 : decode cL_law 209 = .ok (.iadd, 1) := by decide +kernel
theorem dL_law_210 : decode cL_law 210 = .ok (.iaload, 1) := by decide +kernel
theorem dL_law_211 : decode cL_law 211 = .ok (.invokevirtual 17, 3) := by decide +kernel
theorem dL_law_214 : decode cL_law 214 = .ok (.if_icmp .eq 1168, 3) := by decide +kernel
theorem dL_law_217 : decode cL_law 217 = .ok (.iconst 0, 1) := by decide +kernel
theorem dL_law_218 : decode cL_law 218 = .ok (.ireturn, 1) := by decide +kernel
theorem dL_law_219 : decode cL_law 219 = .ok (.aload_n 1, 1) := by decide +kernel
theorem dL_law_220 : decode cL_law 220 = .ok (.aload_n 0, 1) := by decide +kernel
theorem dL_law_221 : decode cL_law 221 = .ok (.iload_n 3, 1) := by decide +kernel
theorem dL_law_222 : decode cL_law 222 = .ok (.iconst 1, 1) := by decide +kernel
theorem dL_law_223 : decode cL_law 223 = .ok (.iadd, 1) := by decide +kernel
theorem dL_law_224 : decode cL_law 224 = .ok (.iaload, 1) := by decide +kernel
theorem dL_law_225 : decode cL_law 225 = .ok (.invokevirtual 18, 3) := by decide +kernel
theorem dL_law_228 : decode cL_law 228 = .ok (.aload_n 2, 1) := by decide +kernel
theorem dL_law_229 : decode cL_law 229 = .ok (.aload_n 0, 1) := by decide +kernel
theorem dL_law_230 : decode cL_law 230 = .ok (.iload_n 3, 1) := by decide +kernel
theorem dL_law_231 : decode cL_law 231 = .ok (.iconst 1, 1) := by decide +kernel
theorem dL_law_232 : decode cL_law 232 = .ok (.iadd, 1) := by decide +kernel
theorem dL_law_233 : decode cL_law 233 = .ok (.iaload, 1) := by decide +kernel
theorem dL_law_234 : decode cL_law 234 = .ok (.invokevirtual 22, 3) := by decide +kernel
theorem dL_law_237 : decode cL_law 237 = .ok (.if_icmp .eq 1145, 3) := by decide +kernel
theorem dL_law_240 : decode cL_law 240 = .ok (.iconst 0, 1) := by decide +kernel
theorem dL_law_241 : decode cL_law 241 = .ok (.ireturn, 1) := by decide +kernel
theorem dL_law_242 : decode cL_law 242 = .ok (.aload_n 1, 1) := by decide +kernel
theorem dL_law_243 : decode cL_law 243 = .ok (.aload_n 0, 1) := by decide +kernel
theorem dL_law_244 : decode cL_law 244 = .ok (.iload_n 3, 1) := by decide +kernel
theorem dL_law_245 : decode cL_law 245 = .ok (.iconst 1, 1) := by decide +kernel
theorem dL_law_246 : decode cL_law 246 = .ok (.iadd, 1) := by decide +kernel
theorem dL_law_247 : decode cL_law 247 = .ok (.iaload, 1) := by decide +kernel
theorem dL_law_248 : decode cL_law 248 = .ok (.aload_n 0, 1) := by decide +kernel
theorem dL_law_249 : decode cL_law 249 = .ok (.iload_n 3, 1) := by decide +kernel
theorem dL_law_250 : decode cL_law 250 = .ok (.iconst 2, 1) := by decide +kernel
theorem dL_law_251 : decode cL_law 251 = .ok (.iadd, 1) := by decide +kernel
theorem dL_law_252 : decode cL_law 252 = .ok (.iaload, 1) := by decide +kernel
theorem dL_law_253 : decode cL_law 253 = .ok (.aload_n 0, 1) := by decide +kernel
theorem dL_law_254 : decode cL_law 254 = .ok (.iload_n 3, 1) := by decide +kernel
theorem dL_law_255 : decode cL_law 255 = .ok (.iconst 3, 1) := by decide +kernel
theorem dL_law_256 : decode cL_law 256 = .ok (.iadd, 1) := by decide +kernel
theorem dL_law_257 : decode cL_law 257 = .ok (.iaload, 1) := by decide +kernel
theorem dL_law_258 : decode cL_law 258 = .ok (.invokevirtual 23, 3) := by decide +kernel
theorem dL_law_261 : decode cL_law 261 = .ok (.aload_n 2, 1) := by decide +kernel
theorem dL_law_262 : decode cL_law 262 = .ok (.aload_n 0, 1) := by decide +kernel
theorem dL_law_263 : decode cL_law 263 = .ok (.iload_n 3, 1) := by decide +kernel
theorem dL_law_264 : decode cL_law 264 = .ok (.iconst 1, 1) := by decide +kernel
theorem dL_law_265 : decode cL_law 265 = .ok (.iadd, 1) := by decide +kernel
theorem dL_law_266 : decode cL_law 266 = .ok (.iaload, 1) := by decide +kernel
theorem dL_law_267 : decode cL_law 267 = .ok (.aload_n 0, 1) := by decide +kernel
theorem dL_law_268 : decode cL_law 268 = .ok (.iload_n 3, 1) := by decide +kernel
theorem dL_law_269 : decode cL_law 269 = .ok (.iconst 2, 1) := by decide +kernel
theorem dL_law_270 : decode cL_law 270 = .ok (.iadd, 1) := by decide +kernel
theorem dL_law_271 : decode cL_law 271 = .ok (.iaload, 1) := by decide +kernel
theorem dL_law_272 : decode cL_law 272 = .ok (.aload_n 0, 1) := by decide +kernel
theorem dL_law_273 : decode cL_law 273 = .ok (.iload_n 3, 1) := by decide +kernel
theorem dL_law_274 : decode cL_law 274 = .ok (.iconst 3, 1) := by decide +kernel
theorem dL_law_275 : decode cL_law 275 = .ok (.iadd, 1) := by decide +kernel
theorem dL_law_276 : decode cL_law 276 = .ok (.iaload, 1) := by decide +kernel
theorem dL_law_277 : decode cL_law 277 = .ok (.invokevirtual 26, 3) := by decide +kernel
theorem dL_law_280 : decode cL_law 280 = .ok (.if_icmp .eq 1102, 3) := by decide +kernel
theorem dL_law_283 : decode cL_law 283 = .ok (.iconst 0, 1) := by decide +kernel
theorem dL_law_284 : decode cL_law 284 = .ok (.ireturn, 1) := by decide +kernel
theorem dL_law_285 : decode cL_law 285 = .ok (.aload_n 1, 1) := by decide +kernel
theorem dL_law_286 : decode cL_law 286 = .ok (.aload_n 0, 1) := by decide +kernel
theorem dL_law_287 : decode cL_law 287 = .ok (.iload_n 3, 1) := by decide +kernel
theorem dL_law_288 : decode cL_law 288 = .ok (.iconst 1, 1) := by decide +kernel
theorem dL_law_289 : decode cL_law 289 = .ok (.iadd, 1) := by decide +kernel
theorem dL_law_290 : decode cL_law 290 = .ok (.iaload, 1) := by decide +kernel
theorem dL_law_291 : decode cL_law 291 = .ok (.aload_n 0, 1) := by decide +kernel
theorem dL_law_292 : decode cL_law 292 = .ok (.iload_n 3, 1) := by decide +kernel
theorem dL_law_293 : decode cL_law 293 = .ok (.iconst 2, 1) := by decide +kernel
theorem dL_law_294 : decode cL_law 294 = .ok (.iadd, 1) := by decide +kernel
theorem dL_law_295 : decode cL_law 295 = .ok (.iaload, 1) := by decide +kernel
theorem dL_law_296 : decode cL_law 296 = .ok (.aload_n 0, 1) := by decide +kernel
theorem dL_law_297 : decode cL_law 297 = .ok (.iload_n 3, 1) := by decide +kernel
theorem dL_law_298 : decode cL_law 298 = .ok (.iconst 3, 1) := by decide +kernel
theorem dL_law_299 : decode cL_law 299 = .ok (.iadd, 1) := by decide +kernel
theorem dL_law_300 : decode cL_law 300 = .ok (.iaload, 1) := by decide +kernel
theorem dL_law_301 : decode cL_law 301 = .ok (.aload_n 0, 1) := by decide +kernel
theorem dL_law_302 : decode cL_law 302 = .ok (.iload_n 3, 1) := by decide +kernel
theorem dL_law_303 : decode cL_law 303 = .ok (.iconst 4, 1) := by decide +kernel
theorem dL_law_304 : decode cL_law 304 = .ok (.iadd, 1) := by decide +kernel
theorem dL_law_305 : decode cL_law 305 = .ok (.iaload, 1) := by decide +kernel
theorem dL_law_306 : decode cL_law 306 = .ok (.aload_n 0, 1) := by decide +kernel
theorem dL_law_307 : decode cL_law 307 = .ok (.iload_n 3, 1) := by decide +kernel
theorem dL_law_308 : decode cL_law 308 = .ok (.iconst 5, 1) := by decide +kernel
theorem dL_law_309 : decode cL_law 309 = .ok (.iadd, 1) := by decide +kernel
theorem dL_law_310 : decode cL_law 310 = .ok (.iaload, 1) := by decide +kernel
theorem dL_law_311 : decode cL_law 311 = .ok (.invokevirtual 27, 3) := by decide +kernel
theorem dL_law_314 : decode cL_law 314 = .ok (.aload_n 2, 1) := by decide +kernel
theorem dL_law_315 : decode cL_law 315 = .ok (.aload_n 0, 1) := by decide +kernel
theorem dL_law_316 : decode cL_law 316 = .ok (.iload_n 3, 1) := by decide +kernel
theorem dL_law_317 : decode cL_law 317 = .ok (.iconst 1, 1) := by decide +kernel
theorem dL_law_318 : decode cL_law 318 = .ok (.iadd, 1) := by decide +kernel
theorem dL_law_319 : decode cL_law 319 = .ok (.iaload, 1) := by decide +kernel
theorem dL_law_320 : decode cL_law 320 = .ok (.aload_n 0, 1) := by decide +kernel
theorem dL_law_321 : decode cL_law 321 = .ok (.iload_n 3, 1) := by decide +kernel
theorem dL_law_322 : decode cL_law 322 = .ok (.iconst 2, 1) := by decide +kernel
theorem dL_law_323 : decode cL_law 323 = .ok (.iadd, 1) := by decide +kernel
theorem dL_law_324 : decode cL_law 324 = .ok (.iaload, 1) := by decide +kernel
theorem dL_law_325 : decode cL_law 325 = .ok (.aload_n 0, 1) := by decide +kernel
theorem dL_law_326 : decode cL_law 326 = .ok (.iload_n 3, 1) := by decide +kernel
theorem dL_law_327 : decode cL_law 327 = .ok (.iconst 3, 1) := by decide +kernel
theorem dL_law_328 : decode cL_law 328 = .ok (.iadd, 1) := by decide +kernel
theorem dL_law_329 : decode cL_law 329 = .ok (.iaload, 1) := by decide +kernel
theorem dL_law_330 : decode cL_law 330 = .ok (.aload_n 0, 1) := by decide +kernel
theorem dL_law_331 : decode cL_law 331 = .ok (.iload_n 3, 1) := by decide +kernel
theorem dL_law_332 : decode cL_law 332 = .ok (.iconst 4, 1) := by decide +kernel
theorem dL_law_333 : decode cL_law 333 = .ok (.iadd, 1) := by decide +kernel
theorem dL_law_334 : decode cL_law 334 = .ok (.iaload, 1) := by decide +kernel
theorem dL_law_335 : decode cL_law 335 = .ok (.aload_n 0, 1) := by decide +kernel
theorem dL_law_336 : decode cL_law 336 = .ok (.iload_n 3, 1) := by decide +kernel
theorem dL_law_337 : decode cL_law 337 = .ok (.iconst 5, 1) := by decide +kernel
theorem dL_law_338 : decode cL_law 338 = .ok (.iadd, 1) := by decide +kernel
theorem dL_law_339 : decode cL_law 339 = .ok (.iaload, 1) := by decide +kernel
theorem dL_law_340 : decode cL_law 340 = .ok (.invokevirtual 31, 3) := by decide +kernel
theorem dL_law_343 : decode cL_law 343 = .ok (.if_icmp .eq 1039, 3) := by decide +kernel
theorem dL_law_346 : decode cL_law 346 = .ok (.iconst 0, 1) := by decide +kernel
theorem dL_law_347 : decode cL_law 347 = .ok (.ireturn, 1) := by decide +kernel
theorem dL_law_348 : decode cL_law 348 = .ok (.aload_n 1, 1) := by decide +kernel
theorem dL_law_349 : decode cL_law 349 = .ok (.aload_n 0, 1) := by decide +kernel
theorem dL_law_350 : decode cL_law 350 = .ok (.iload_n 3, 1) := by decide +kernel
theorem dL_law_351 : decode cL_law 351 = .ok (.iconst 1, 1) := by decide +kernel
theorem dL_law_352 : decode cL_law 352 = .ok (.iadd, 1) := by decide +kernel
theorem dL_law_353 : decode cL_law 353 = .ok (.iaload, 1) := by decide +kernel
theorem dL_law_354 : decode cL_law 354 = .ok (.aload_n 0, 1) := by decide +kernel
theorem dL_law_355 : decode cL_law 355 = .ok (.iload_n 3, 1) := by decide +kernel
theorem dL_law_356 : decode cL_law 356 = .ok (.iconst 2, 1) := by decide +kernel
theorem dL_law_357 : decode cL_law 357 = .ok (.iadd, 1) := by decide +kernel
theorem dL_law_358 : decode cL_law 358 = .ok (.iaload, 1) := by decide +kernel
theorem dL_law_359 : decode cL_law 359 = .ok (.aload_n 0, 1) := by decide +kernel
theorem dL_law_360 : decode cL_law 360 = .ok (.iload_n 3, 1) := by decide +kernel
theorem dL_law_361 : decode cL_law 361 = .ok (.iconst 3, 1) := by decide +kernel
theorem dL_law_362 : decode cL_law 362 = .ok (.iadd, 1) := by decide +kernel
theorem dL_law_363 : decode cL_law 363 = .ok (.iaload, 1) := by decide +kernel
theorem dL_law_364 : decode cL_law 364 = .ok (.aload_n 0, 1) := by decide +kernel
theorem dL_law_365 : decode cL_law 365 = .ok (.iload_n 3, 1) := by decide +kernel
theorem dL_law_366 : decode cL_law 366 = .ok (.iconst 4, 1) := by decide +kernel
theorem dL_law_367 : decode cL_law 367 = .ok (.iadd, 1) := by decide +kernel
theorem dL_law_368 : decode cL_law 368 = .ok (.iaload, 1) := by decide +kernel
theorem dL_law_369 : decode cL_law 369 = .ok (.invokevirtual 32, 3) := by decide +kernel
theorem dL_law_372 : decode cL_law 372 = .ok (.aload_n 2, 1) := by decide +kernel
theorem dL_law_373 : decode cL_law 373 = .ok (.aload_n 0, 1) := by decide +kernel
theorem dL_law_374 : decode cL_law 374 = .ok (.iload_n 3, 1) := by decide +kernel
theorem dL_law_375 : decode cL_law 375 = .ok (.iconst 1, 1) := by decide +kernel
theorem dL_law_376 : decode cL_law 376 = .ok (.iadd, 1) := by decide +kernel
theorem dL_law_377 : decode cL_law 377 = .ok (.iaload, 1) := by decide +kernel
theorem dL_law_378 : decode cL_law 378 = .ok (.aload_n 0, 1) := by decide +kernel
theorem dL_law_379 : decode cL_law 379 = .ok (.iload_n 3, 1) := by decide +kernel
theorem dL_law_380 : decode cL_law 380 = .ok (.iconst 2, 1) := by decide +kernel
theorem dL_law_381 : decode cL_law 381 = .ok (.iadd, 1) := by decide +kernel
theorem dL_law_382 : decode cL_law 382 = .ok (.iaload, 1) := by decide +kernel
theorem dL_law_383 : decode cL_law 383 = .ok (.aload_n 0, 1) := by decide +kernel
theorem dL_law_384 : decode cL_law 384 = .ok (.iload_n 3, 1) := by decide +kernel
theorem dL_law_385 : decode cL_law 385 = .ok (.iconst 3, 1) := by decide +kernel
theorem dL_law_386 : decode cL_law 386 = .ok (.iadd, 1) := by decide +kernel
theorem dL_law_387 : decode cL_law 387 = .ok (.iaload, 1) := by decide +kernel
theorem dL_law_388 : decode cL_law 388 = .ok (.aload_n 0, 1) := by decide +kernel
theorem dL_law_389 : decode cL_law 389 = .ok (.iload_n 3, 1) := by decide +kernel
theorem dL_law_390 : decode cL_law 390 = .ok (.iconst 4, 1) := by decide +kernel
theorem dL_law_391 : decode cL_law 391 = .ok (.iadd, 1) := by decide +kernel
theorem dL_law_392 : decode cL_law 392 = .ok (.iaload, 1) := by decide +kernel
theorem dL_law_393 : decode cL_law 393 = .ok (.invokevirtual 36, 3) := by decide +kernel
theorem dL_law_396 : decode cL_law 396 = .ok (.if_icmp .eq 986, 3) := by decide +kernel
theorem dL_law_399 : decode cL_law 399 = .ok (.iconst 0, 1) := by decide +kernel
theorem dL_law_400 : decode cL_law 400 = .ok (.ireturn, 1) := by decide +kernel
theorem dL_law_401 : decode cL_law 401 = .ok (.aload_n 1, 1) := by decide +kernel
theorem dL_law_402 : decode cL_law 402 = .ok (.aload_n 0, 1) := by decide +kernel
theorem dL_law_403 : decode cL_law 403 = .ok (.iload_n 3, 1) := by decide +kernel
theorem dL_law_404 : decode cL_law 404 = .ok (.iconst 1, 1) := by decide +kernel
theorem dL_law_405 : decode cL_law 405 = .ok (.iadd, 1) := by decide +kernel
theorem dL_law_406 : decode cL_law 406 = .ok (.iaload, 1) := by decide +kernel
theorem dL_law_407 : decode cL_law 407 = .ok (.aload_n 0, 1) := by decide +kernel
theorem dL_law_408 : decode cL_law 408 = .ok (.iload_n 3, 1) := by decide +kernel
theorem dL_law_409 : decode cL_law 409 = .ok (.iconst 2, 1) := by decide +kernel
theorem dL_law_410 : decode cL_law 410 = .ok (.iadd, 1) := by decide +kernel
theorem dL_law_411 : decode cL_law 411 = .ok (.iaload, 1) := by decide +kernel
theorem dL_law_412 : decode cL_law 412 = .ok (.aload_n 0, 1) := by decide +kernel
theorem dL_law_413 : decode cL_law 413 = .ok (.iload_n 3, 1) := by decide +kernel
theorem dL_law_414 : decode cL_law 414 = .ok (.iconst 3, 1) := by decide +kernel
theorem dL_law_415 : decode cL_law 415 = .ok (.iadd, 1) := by decide +kernel
theorem dL_law_416 : decode cL_law 416 = .ok (.iaload, 1) := by decide +kernel
theorem dL_law_417 : decode cL_law 417 = .ok (.aload_n 0, 1) := by decide +kernel
theorem dL_law_418 : decode cL_law 418 = .ok (.iload_n 3, 1) := by decide +kernel
theorem dL_law_419 : decode cL_law 419 = .ok (.iconst 4, 1) := by decide +kernel
theorem dL_law_420 : decode cL_law 420 = .ok (.iadd, 1) := by decide +kernel
theorem dL_law_421 : decode cL_law 421 = .ok (.iaload, 1) := by decide +kernel
theorem dL_law_422 : decode cL_law 422 = .ok (.invokevirtual 37, 3) := by decide +kernel
theorem dL_law_425 : decode cL_law 425 = .ok (.aload_n 2, 1) := by decide +kernel
theorem dL_law_426 : decode cL_law 426 = .ok (.aload_n 0, 1) := by decide +kernel
theorem dL_law_427 : decode cL_law 427 = .ok (.iload_n 3, 1) := by decide +kernel
theorem dL_law_428 : decode cL_law 428 = .ok (.iconst 1, 1) := by decide +kernel
theorem dL_law_429 : decode cL_law 429 = .ok (.iadd, 1) := by decide +kernel
theorem dL_law_430 : decode cL_law 430 = .ok (.iaload, 1) := by decide +kernel
theorem dL_law_431 : decode cL_law 431 = .ok (.aload_n 0, 1) := by decide +kernel
theorem dL_law_432 : decode cL_law 432 = .ok (.iload_n 3, 1) := by decide +kernel
theorem dL_law_433 : decode cL_law 433 = .ok (.iconst 2, 1) := by decide +kernel
theorem dL_law_434 : decode cL_law 434 = .ok (.iadd, 1) := by decide +kernel
theorem dL_law_435 : decode cL_law 435 = .ok (.iaload, 1) := by decide +kernel
theorem dL_law_436 : decode cL_law 436 = .ok (.aload_n 0, 1) := by decide +kernel
theorem dL_law_437 : decode cL_law 437 = .ok (.iload_n 3, 1) := by decide +kernel
theorem dL_law_438 : decode cL_law 438 = .ok (.iconst 3, 1) := by decide +kernel
theorem dL_law_439 : decode cL_law 439 = .ok (.iadd, 1) := by decide +kernel
theorem dL_law_440 : decode cL_law 440 = .ok (.iaload, 1) := by decide +kernel
theorem dL_law_441 : decode cL_law 441 = .ok (.aload_n 0, 1) := by decide +kernel
theorem dL_law_442 : decode cL_law 442 = .ok (.iload_n 3, 1) := by decide +kernel
theorem dL_law_443 : decode cL_law 443 = .ok (.iconst 4, 1) := by decide +kernel
theorem dL_law_444 : decode cL_law 444 = .ok (.iadd, 1) := by decide +kernel
theorem dL_law_445 : decode cL_law 445 = .ok (.iaload, 1) := by decide +kernel
theorem dL_law_446 : decode cL_law 446 = .ok (.invokevirtual 40, 3) := by decide +kernel
theorem dL_law_449 : decode cL_law 449 = .ok (.if_icmp .eq 933, 3) := by decide +kernel
theorem dL_law_452 : decode cL_law 452 = .ok (.iconst 0, 1) := by decide +kernel
theorem dL_law_453 : decode cL_law 453 = .ok (.ireturn, 1) := by decide +kernel
theorem dL_law_454 : decode cL_law 454 = .ok (.aload_n 1, 1) := by decide +kernel
theorem dL_law_455 : decode cL_law 455 = .ok (.aload_n 0, 1) := by decide +kernel
theorem dL_law_456 : decode cL_law 456 = .ok (.iload_n 3, 1) := by decide +kernel
theorem dL_law_457 : decode cL_law 457 = .ok (.iconst 1, 1) := by decide +kernel
theorem dL_law_458 : decode cL_law 458 = .ok (.iadd, 1) := by decide +kernel
theorem dL_law_459 : decode cL_law 459 = .ok (.iaload, 1) := by decide +kernel
theorem dL_law_460 : decode cL_law 460 = .ok (.invokevirtual 41, 3) := by decide +kernel
theorem dL_law_463 : decode cL_law 463 = .ok (.aload_n 2, 1) := by decide +kernel
theorem dL_law_464 : decode cL_law 464 = .ok (.aload_n 0, 1) := by decide +kernel
theorem dL_law_465 : decode cL_law 465 = .ok (.iload_n 3, 1) := by decide +kernel
theorem dL_law_466 : decode cL_law 466 = .ok (.iconst 1, 1) := by decide +kernel
theorem dL_law_467 : decode cL_law 467 = .ok (.iadd, 1) := by decide +kernel
theorem dL_law_468 : decode cL_law 468 = .ok (.iaload, 1) := by decide +kernel
theorem dL_law_469 : decode cL_law 469 = .ok (.invokevirtual 44, 3) := by decide +kernel
theorem dL_law_472 : decode cL_law 472 = .ok (.if_icmp .eq 910, 3) := by decide +kernel
theorem dL_law_475 : decode cL_law 475 = .ok (.iconst 0, 1) := by decide +kernel
theorem dL_law_476 : decode cL_law 476 = .ok (.ireturn, 1) := by decide +kernel
theorem dL_law_477 : decode cL_law 477 = .ok (.aload_n 1, 1) := by decide +kernel
theorem dL_law_478 : decode cL_law 478 = .ok (.aload_n 0, 1) := by decide +kernel
theorem dL_law_479 : decode cL_law 479 = .ok (.iload_n 3, 1) := by decide +kernel
theorem dL_law_480 : decode cL_law 480 = .ok (.iconst 1, 1) := by decide +kernel
theorem dL_law_481 : decode cL_law 481 = .ok (.iadd, 1) := by decide +kernel
theorem dL_law_482 : decode cL_law 482 = .ok (.iaload, 1) := by decide +kernel
theorem dL_law_483 : decode cL_law 483 = .ok (.aload_n 0, 1) := by decide +kernel
theorem dL_law_484 : decode cL_law 484 = .ok (.iload_n 3, 1) := by decide +kernel
theorem dL_law_485 : decode cL_law 485 = .ok (.iconst 2, 1) := by decide +kernel
theorem dL_law_486 : decode cL_law 486 = .ok (.iadd, 1) := by decide +kernel
theorem dL_law_487 : decode cL_law 487 = .ok (.iaload, 1) := by decide +kernel
theorem dL_law_488 : decode cL_law 488 = .ok (.aload_n 0, 1) := by decide +kernel
theorem dL_law_489 : decode cL_law 489 = .ok (.iload_n 3, 1) := by decide +kernel
theorem dL_law_490 : decode cL_law 490 = .ok (.iconst 3, 1) := by decide +kernel
theorem dL_law_491 : decode cL_law 491 = .ok (.iadd, 1) := by decide +kernel
theorem dL_law_492 : decode cL_law 492 = .ok (.iaload, 1) := by decide +kernel
theorem dL_law_493 : decode cL_law 493 = .ok (.invokevirtual 45, 3) := by decide +kernel
theorem dL_law_496 : decode cL_law 496 = .ok (.aload_n 2, 1) := by decide +kernel
theorem dL_law_497 : decode cL_law 497 = .ok (.aload_n 0, 1) := by decide +kernel
theorem dL_law_498 : decode cL_law 498 = .ok (.iload_n 3, 1) := by decide +kernel
theorem dL_law_499 : decode cL_law 499 = .ok (.iconst 1, 1) := by decide +kernel
theorem dL_law_500 : decode cL_law 500 = .ok (.iadd, 1) := by decide +kernel
theorem dL_law_501 : decode cL_law 501 = .ok (.iaload, 1) := by decide +kernel
theorem dL_law_502 : decode cL_law 502 = .ok (.aload_n 0, 1) := by decide +kernel
theorem dL_law_503 : decode cL_law 503 = .ok (.iload_n 3, 1) := by decide +kernel
theorem dL_law_504 : decode cL_law 504 = .ok (.iconst 2, 1) := by decide +kernel
theorem dL_law_505 : decode cL_law 505 = .ok (.iadd, 1) := by decide +kernel
theorem dL_law_506 : decode cL_law 506 = .ok (.iaload, 1) := by decide +kernel
theorem dL_law_507 : decode cL_law 507 = .ok (.aload_n 0, 1) := by decide +kernel
theorem dL_law_508 : decode cL_law 508 = .ok (.iload_n 3, 1) := by decide +kernel
theorem dL_law_509 : decode cL_law 509 = .ok (.iconst 3, 1) := by decide +kernel
theorem dL_law_510 : decode cL_law 510 = .ok (.iadd, 1) := by decide +kernel
theorem dL_law_511 : decode cL_law 511 = .ok (.iaload, 1) := by decide +kernel
theorem dL_law_512 : decode cL_law 512 = .ok (.invokevirtual 48, 3) := by decide +kernel
theorem dL_law_515 : decode cL_law 515 = .ok (.if_icmp .eq 867, 3) := by decide +kernel
theorem dL_law_518 : decode cL_law 518 = .ok (.iconst 0, 1) := by decide +kernel
theorem dL_law_519 : decode cL_law 519 = .ok (.ireturn, 1) := by decide +kernel
theorem dL_law_520 : decode cL_law 520 = .ok (.aload_n 1, 1) := by decide +kernel
theorem dL_law_521 : decode cL_law 521 = .ok (.aload_n 0, 1) := by decide +kernel
theorem dL_law_522 : decode cL_law 522 = .ok (.iload_n 3, 1) := by decide +kernel
theorem dL_law_523 : decode cL_law 523 = .ok (.iconst 1, 1) := by decide +kernel
theorem dL_law_524 : decode cL_law 524 = .ok (.iadd, 1) := by decide +kernel
theorem dL_law_525 : decode cL_law 525 = .ok (.iaload, 1) := by decide +kernel
theorem dL_law_526 : decode cL_law 526 = .ok (.aload_n 0, 1) := by decide +kernel
theorem dL_law_527 : decode cL_law 527 = .ok (.iload_n 3, 1) := by decide +kernel
theorem dL_law_528 : decode cL_law 528 = .ok (.iconst 2, 1) := by decide +kernel
theorem dL_law_529 : decode cL_law 529 = .ok (.iadd, 1) := by decide +kernel
theorem dL_law_530 : decode cL_law 530 = .ok (.iaload, 1) := by decide +kernel
theorem dL_law_531 : decode cL_law 531 = .ok (.aload_n 0, 1) := by decide +kernel
theorem dL_law_532 : decode cL_law 532 = .ok (.iload_n 3, 1) := by decide +kernel
theorem dL_law_533 : decode cL_law 533 = .ok (.iconst 3, 1) := by decide +kernel
theorem dL_law_534 : decode cL_law 534 = .ok (.iadd, 1) := by decide +kernel
theorem dL_law_535 : decode cL_law 535 = .ok (.iaload, 1) := by decide +kernel
theorem dL_law_536 : decode cL_law 536 = .ok (.aload_n 0, 1) := by decide +kernel
theorem dL_law_537 : decode cL_law 537 = .ok (.iload_n 3, 1) := by decide +kernel
theorem dL_law_538 : decode cL_law 538 = .ok (.iconst 4, 1) := by decide +kernel
theorem dL_law_539 : decode cL_law 539 = .ok (.iadd, 1) := by decide +kernel
theorem dL_law_540 : decode cL_law 540 = .ok (.iaload, 1) := by decide +kernel
theorem dL_law_541 : decode cL_law 541 = .ok (.invokevirtual 49, 3) := by decide +kernel
theorem dL_law_544 : decode cL_law 544 = .ok (.aload_n 2, 1) := by decide +kernel
theorem dL_law_545 : decode cL_law 545 = .ok (.aload_n 0, 1) := by decide +kernel
theorem dL_law_546 : decode cL_law 546 = .ok (.iload_n 3, 1) := by decide +kernel
theorem dL_law_547 : decode cL_law 547 = .ok (.iconst 1, 1) := by decide +kernel
theorem dL_law_548 : decode cL_law 548 = .ok (.iadd, 1) := by decide +kernel
theorem dL_law_549 : decode cL_law 549 = .ok (.iaload, 1) := by decide +kernel
theorem dL_law_550 : decode cL_law 550 = .ok (.aload_n 0, 1) := by decide +kernel
theorem dL_law_551 : decode cL_law 551 = .ok (.iload_n 3, 1) := by decide +kernel
theorem dL_law_552 : decode cL_law 552 = .ok (.iconst 2, 1) := by decide +kernel
theorem dL_law_553 : decode cL_law 553 = .ok (.iadd, 1) := by decide +kernel
theorem dL_law_554 : decode cL_law 554 = .ok (.iaload, 1) := by decide +kernel
theorem dL_law_555 : decode cL_law 555 = .ok (.aload_n 0, 1) := by decide +kernel
theorem dL_law_556 : decode cL_law 556 = .ok (.iload_n 3, 1) := by decide +kernel
theorem dL_law_557 : decode cL_law 557 = .ok (.iconst 3, 1) := by decide +kernel
theorem dL_law_558 : decode cL_law 558 = .ok (.iadd, 1) := by decide +kernel
theorem dL_law_559 : decode cL_law 559 = .ok (.iaload, 1) := by decide +kernel
theorem dL_law_560 : decode cL_law 560 = .ok (.aload_n 0, 1) := by decide +kernel
theorem dL_law_561 : decode cL_law 561 = .ok (.iload_n 3, 1) := by decide +kernel
theorem dL_law_562 : decode cL_law 562 = .ok (.iconst 4, 1) := by decide +kernel
theorem dL_law_563 : decode cL_law 563 = .ok (.iadd, 1) := by decide +kernel
theorem dL_law_564 : decode cL_law 564 = .ok (.iaload, 1) := by decide +kernel
theorem dL_law_565 : decode cL_law 565 = .ok (.invokevirtual 52, 3) := by decide +kernel
theorem dL_law_568 : decode cL_law 568 = .ok (.if_icmp .eq 814, 3) := by decide +kernel
theorem dL_law_571 : decode cL_law 571 = .ok (.iconst 0, 1) := by decide +kernel
theorem dL_law_572 : decode cL_law 572 = .ok (.ireturn, 1) := by decide +kernel
theorem dL_law_573 : decode cL_law 573 = .ok (.aload_n 1, 1) := by decide +kernel
theorem dL_law_574 : decode cL_law 574 = .ok (.aload_n 0, 1) := by decide +kernel
theorem dL_law_575 : decode cL_law 575 = .ok (.iload_n 3, 1) := by decide +kernel
theorem dL_law_576 : decode cL_law 576 = .ok (.iconst 1, 1) := by decide +kernel
theorem dL_law_577 : decode cL_law 577 = .ok (.iadd, 1) := by decide +kernel
theorem dL_law_578 : decode cL_law 578 = .ok (.iaload, 1) := by decide +kernel
theorem dL_law_579 : decode cL_law 579 = .ok (.aload_n 0, 1) := by decide +kernel
theorem dL_law_580 : decode cL_law 580 = .ok (.iload_n 3, 1) := by decide +kernel
theorem dL_law_581 : decode cL_law 581 = .ok (.iconst 2, 1) := by decide +kernel
theorem dL_law_582 : decode cL_law 582 = .ok (.iadd, 1) := by decide +kernel
theorem dL_law_583 : decode cL_law 583 = .ok (.iaload, 1) := by decide +kernel
theorem dL_law_584 : decode cL_law 584 = .ok (.aload_n 0, 1) := by decide +kernel
theorem dL_law_585 : decode cL_law 585 = .ok (.iload_n 3, 1) := by decide +kernel
theorem dL_law_586 : decode cL_law 586 = .ok (.iconst 3, 1) := by decide +kernel
theorem dL_law_587 : decode cL_law 587 = .ok (.iadd, 1) := by decide +kernel
theorem dL_law_588 : decode cL_law 588 = .ok (.iaload, 1) := by decide +kernel
theorem dL_law_589 : decode cL_law 589 = .ok (.aload_n 0, 1) := by decide +kernel
theorem dL_law_590 : decode cL_law 590 = .ok (.iload_n 3, 1) := by decide +kernel
theorem dL_law_591 : decode cL_law 591 = .ok (.iconst 4, 1) := by decide +kernel
theorem dL_law_592 : decode cL_law 592 = .ok (.iadd, 1) := by decide +kernel
theorem dL_law_593 : decode cL_law 593 = .ok (.iaload, 1) := by decide +kernel
theorem dL_law_594 : decode cL_law 594 = .ok (.aload_n 0, 1) := by decide +kernel
theorem dL_law_595 : decode cL_law 595 = .ok (.iload_n 3, 1) := by decide +kernel
theorem dL_law_596 : decode cL_law 596 = .ok (.iconst 5, 1) := by decide +kernel
theorem dL_law_597 : decode cL_law 597 = .ok (.iadd, 1) := by decide +kernel
theorem dL_law_598 : decode cL_law 598 = .ok (.iaload, 1) := by decide +kernel
theorem dL_law_599 : decode cL_law 599 = .ok (.invokevirtual 53, 3) := by decide +kernel
theorem dL_law_602 : decode cL_law 602 = .ok (.aload_n 2, 1) := by decide +kernel
theorem dL_law_603 : decode cL_law 603 = .ok (.aload_n 0, 1) := by decide +kernel
theorem dL_law_604 : decode cL_law 604 = .ok (.iload_n 3, 1) := by decide +kernel
theorem dL_law_605 : decode cL_law 605 = .ok (.iconst 1, 1) := by decide +kernel
theorem dL_law_606 : decode cL_law 606 = .ok (.iadd, 1) := by decide +kernel
theorem dL_law_607 : decode cL_law 607 = .ok (.iaload, 1) := by decide +kernel
theorem dL_law_608 : decode cL_law 608 = .ok (.aload_n 0, 1) := by decide +kernel
theorem dL_law_609 : decode cL_law 609 = .ok (.iload_n 3, 1) := by decide +kernel
theorem dL_law_610 : decode cL_law 610 = .ok (.iconst 2, 1) := by decide +kernel
theorem dL_law_611 : decode cL_law 611 = .ok (.iadd, 1) := by decide +kernel
theorem dL_law_612 : decode cL_law 612 = .ok (.iaload, 1) := by decide +kernel
theorem dL_law_613 : decode cL_law 613 = .ok (.aload_n 0, 1) := by decide +kernel
theorem dL_law_614 : decode cL_law 614 = .ok (.iload_n 3, 1) := by decide +kernel
theorem dL_law_615 : decode cL_law 615 = .ok (.iconst 3, 1) := by decide +kernel
theorem dL_law_616 : decode cL_law 616 = .ok (.iadd, 1) := by decide +kernel
theorem dL_law_617 : decode cL_law 617 = .ok (.iaload, 1) := by decide +kernel
theorem dL_law_618 : decode cL_law 618 = .ok (.aload_n 0, 1) := by decide +kernel
theorem dL_law_619 : decode cL_law 619 = .ok (.iload_n 3, 1) := by decide +kernel
theorem dL_law_620 : decode cL_law 620 = .ok (.iconst 4, 1) := by decide +kernel
theorem dL_law_621 : decode cL_law 621 = .ok (.iadd, 1) := by decide +kernel
theorem dL_law_622 : decode cL_law 622 = .ok (.iaload, 1) := by decide +kernel
theorem dL_law_623 : decode cL_law 623 = .ok (.aload_n 0, 1) := by decide +kernel
theorem dL_law_624 : decode cL_law 624 = .ok (.iload_n 3, 1) := by decide +kernel
theorem dL_law_625 : decode cL_law 625 = .ok (.iconst 5, 1) := by decide +kernel
theorem dL_law_626 : decode cL_law 626 = .ok (.iadd, 1) := by decide +kernel
theorem dL_law_627 : decode cL_law 627 = .ok (.iaload, 1) := by decide +kernel
theorem dL_law_628 : decode cL_law 628 = .ok (.invokevirtual 56, 3) := by decide +kernel
theorem dL_law_631 : decode cL_law 631 = .ok (.if_icmp .eq 751, 3) := by decide +kernel
theorem dL_law_634 : decode cL_law 634 = .ok (.iconst 0, 1) := by decide +kernel
theorem dL_law_635 : decode cL_law 635 = .ok (.ireturn, 1) := by decide +kernel
theorem dL_law_636 : decode cL_law 636 = .ok (.aload_n 1, 1) := by decide +kernel
theorem dL_law_637 : decode cL_law 637 = .ok (.invokevirtual 57, 3) := by decide +kernel
theorem dL_law_640 : decode cL_law 640 = .ok (.aload_n 2, 1) := by decide +kernel
theorem dL_law_641 : decode cL_law 641 = .ok (.invokevirtual 61, 3) := by decide +kernel
theorem dL_law_644 : decode cL_law 644 = .ok (.if_icmp .eq 738, 3) := by decide +kernel
theorem dL_law_647 : decode cL_law 647 = .ok (.iconst 0, 1) := by decide +kernel
theorem dL_law_648 : decode cL_law 648 = .ok (.ireturn, 1) := by decide +kernel
theorem dL_law_649 : decode cL_law 649 = .ok (.aload_n 1, 1) := by decide +kernel
theorem dL_law_650 : decode cL_law 650 = .ok (.aload_n 0, 1) := by decide +kernel
theorem dL_law_651 : decode cL_law 651 = .ok (.iload_n 3, 1) := by decide +kernel
theorem dL_law_652 : decode cL_law 652 = .ok (.iconst 1, 1) := by decide +kernel
theorem dL_law_653 : decode cL_law 653 = .ok (.iadd, 1) := by decide +kernel
theorem dL_law_654 : decode cL_law 654 = .ok (.iaload, 1) := by decide +kernel
theorem dL_law_655 : decode cL_law 655 = .ok (.aload_n 0, 1) := by decide +kernel
theorem dL_law_656 : decode cL_law 656 = .ok (.iload_n 3, 1) := by decide +kernel
theorem dL_law_657 : decode cL_law 657 = .ok (.iconst 2, 1) := by decide +kernel
theorem dL_law_658 : decode cL_law 658 = .ok (.iadd, 1) := by decide +kernel
theorem dL_law_659 : decode cL_law 659 = .ok (.iaload, 1) := by decide +kernel
theorem dL_law_660 : decode cL_law 660 = .ok (.invokevirtual 62, 3) := by decide +kernel
theorem dL_law_663 : decode cL_law 663 = .ok (.aload_n 2, 1) := by decide +kernel
theorem dL_law_664 : decode cL_law 664 = .ok (.aload_n 0, 1) := by decide +kernel
theorem dL_law_665 : decode cL_law 665 = .ok (.iload_n 3, 1) := by decide +kernel
theorem dL_law_666 : decode cL_law 666 = .ok (.iconst 1, 1) := by decide +kernel
theorem dL_law_667 : decode cL_law 667 = .ok (.iadd, 1) := by decide +kernel
theorem dL_law_668 : decode cL_law 668 = .ok (.iaload, 1) := by decide +kernel
theorem dL_law_669 : decode cL_law 669 = .ok (.aload_n 0, 1) := by decide +kernel
theorem dL_law_670 : decode cL_law 670 = .ok (.iload_n 3, 1) := by decide +kernel
theorem dL_law_671 : decode cL_law 671 = .ok (.iconst 2, 1) := by decide +kernel
theorem dL_law_672 : decode cL_law 672 = .ok (.iadd, 1) := by decide +kernel
theorem dL_law_673 : decode cL_law 673 = .ok (.iaload, 1) := by decide +kernel
theorem dL_law_674 : decode cL_law 674 = .ok (.invokevirtual 66, 3) := by decide +kernel
theorem dL_law_677 : decode cL_law 677 = .ok (.if_icmp .eq 705, 3) := by decide +kernel
theorem dL_law_680 : decode cL_law 680 = .ok (.iconst 0, 1) := by decide +kernel
theorem dL_law_681 : decode cL_law 681 = .ok (.ireturn, 1) := by decide +kernel
theorem dL_law_682 : decode cL_law 682 = .ok (.aload_n 1, 1) := by decide +kernel
theorem dL_law_683 : decode cL_law 683 = .ok (.aload_n 0, 1) := by decide +kernel
theorem dL_law_684 : decode cL_law 684 = .ok (.iload_n 3, 1) := by decide +kernel
theorem dL_law_685 : decode cL_law 685 = .ok (.iconst 1, 1) := by decide +kernel
theorem dL_law_686 : decode cL_law 686 = .ok (.iadd, 1) := by decide +kernel
theorem dL_law_687 : decode cL_law 687 = .ok (.iaload, 1) := by decide +kernel
theorem dL_law_688 : decode cL_law 688 = .ok (.aload_n 0, 1) := by decide +kernel
theorem dL_law_689 : decode cL_law 689 = .ok (.iload_n 3, 1) := by decide +kernel
theorem dL_law_690 : decode cL_law 690 = .ok (.iconst 2, 1) := by decide +kernel
theorem dL_law_691 : decode cL_law 691 = .ok (.iadd, 1) := by decide +kernel
theorem dL_law_692 : decode cL_law 692 = .ok (.iaload, 1) := by decide +kernel
theorem dL_law_693 : decode cL_law 693 = .ok (.invokevirtual 67, 3) := by decide +kernel
theorem dL_law_696 : decode cL_law 696 = .ok (.aload_n 2, 1) := by decide +kernel
theorem dL_law_697 : decode cL_law 697 = .ok (.aload_n 0, 1) := by decide +kernel
theorem dL_law_698 : decode cL_law 698 = .ok (.iload_n 3, 1) := by decide +kernel
theorem dL_law_699 : decode cL_law 699 = .ok (.iconst 1, 1) := by decide +kernel
theorem dL_law_700 : decode cL_law 700 = .ok (.iadd, 1) := by decide +kernel
theorem dL_law_701 : decode cL_law 701 = .ok (.iaload, 1) := by decide +kernel
theorem dL_law_702 : decode cL_law 702 = .ok (.aload_n 0, 1) := by decide +kernel
theorem dL_law_703 : decode cL_law 703 = .ok (.iload_n 3, 1) := by decide +kernel
theorem dL_law_704 : decode cL_law 704 = .ok (.iconst 2, 1) := by decide +kernel
theorem dL_law_705 : decode cL_law 705 = .ok (.iadd, 1) := by decide +kernel
theorem dL_law_706 : decode cL_law 706 = .ok (.iaload, 1) := by decide +kernel
theorem dL_law_707 : decode cL_law 707 = .ok (.invokevirtual 71, 3) := by decide +kernel
theorem dL_law_710 : decode cL_law 710 = .ok (.if_icmp .eq 672, 3) := by decide +kernel
theorem dL_law_713 : decode cL_law 713 = .ok (.iconst 0, 1) := by decide +kernel
theorem dL_law_714 : decode cL_law 714 = .ok (.ireturn, 1) := by decide +kernel
theorem dL_law_715 : decode cL_law 715 = .ok (.aload_n 1, 1) := by decide +kernel
theorem dL_law_716 : decode cL_law 716 = .ok (.aload_n 0, 1) := by decide +kernel
theorem dL_law_717 : decode cL_law 717 = .ok (.iload_n 3, 1) := by decide +kernel
theorem dL_law_718 : decode cL_law 718 = .ok (.iconst 1, 1) := by decide +kernel
theorem dL_law_719 : decode cL_law 719 = .ok (.iadd, 1) := by decide +kernel
theorem dL_law_720 : decode cL_law 720 = .ok (.iaload, 1) := by decide +kernel
theorem dL_law_721 : decode cL_law 721 = .ok (.aload_n 0, 1) := by decide +kernel
theorem dL_law_722 : decode cL_law 722 = .ok (.iload_n 3, 1) := by decide +kernel
theorem dL_law_723 : decode cL_law 723 = .ok (.iconst 2, 1) := by decide +kernel
theorem dL_law_724 : decode cL_law 724 = .ok (.iadd, 1) := by decide +kernel
theorem dL_law_725 : decode cL_law 725 = .ok (.iaload, 1) := by decide +kernel
theorem dL_law_726 : decode cL_law 726 = .ok (.invokevirtual 72, 3) := by decide +kernel
theorem dL_law_729 : decode cL_law 729 = .ok (.aload_n 2, 1) := by decide +kernel
theorem dL_law_730 : decode cL_law 730 = .ok (.aload_n 0, 1) := by decide +kernel
theorem dL_law_731 : decode cL_law 731 = .ok (.iload_n 3, 1) := by decide +kernel
theorem dL_law_732 : decode cL_law 732 = .ok (.iconst 1, 1) := by decide +kernel
theorem dL_law_733 : decode cL_law 733 = .ok (.iadd, 1) := by decide +kernel
theorem dL_law_734 : decode cL_law 734 = .ok (.iaload, 1) := by decide +kernel
theorem dL_law_735 : decode cL_law 735 = .ok (.aload_n 0, 1) := by decide +kernel
theorem dL_law_736 : decode cL_law 736 = .ok (.iload_n 3, 1) := by decide +kernel
theorem dL_law_737 : decode cL_law 737 = .ok (.iconst 2, 1) := by decide +kernel
theorem dL_law_738 : decode cL_law 738 = .ok (.iadd, 1) := by decide +kernel
theorem dL_law_739 : decode cL_law 739 = .ok (.iaload, 1) := by decide +kernel
theorem dL_law_740 : decode cL_law 740 = .ok (.invokevirtual 75, 3) := by decide +kernel
theorem dL_law_743 : decode cL_law 743 = .ok (.if_icmp .eq 639, 3) := by decide +kernel
theorem dL_law_746 : decode cL_law 746 = .ok (.iconst 0, 1) := by decide +kernel
theorem dL_law_747 : decode cL_law 747 = .ok (.ireturn, 1) := by decide +kernel
theorem dL_law_748 : decode cL_law 748 = .ok (.aload_n 1, 1) := by decide +kernel
theorem dL_law_749 : decode cL_law 749 = .ok (.aload_n 0, 1) := by decide +kernel
theorem dL_law_750 : decode cL_law 750 = .ok (.iload_n 3, 1) := by decide +kernel
theorem dL_law_751 : decode cL_law 751 = .ok (.iconst 1, 1) := by decide +kernel
theorem dL_law_752 : decode cL_law 752 = .ok (.iadd, 1) := by decide +kernel
theorem dL_law_753 : decode cL_law 753 = .ok (.iaload, 1) := by decide +kernel
theorem dL_law_754 : decode cL_law 754 = .ok (.invokevirtual 76, 3) := by decide +kernel
theorem dL_law_757 : decode cL_law 757 = .ok (.aload_n 2, 1) := by decide +kernel
theorem dL_law_758 : decode cL_law 758 = .ok (.aload_n 0, 1) := by decide +kernel
theorem dL_law_759 : decode cL_law 759 = .ok (.iload_n 3, 1) := by decide +kernel
theorem dL_law_760 : decode cL_law 760 = .ok (.iconst 1, 1) := by decide +kernel
theorem dL_law_761 : decode cL_law 761 = .ok (.iadd, 1) := by decide +kernel
theorem dL_law_762 : decode cL_law 762 = .ok (.iaload, 1) := by decide +kernel
theorem dL_law_763 : decode cL_law 763 = .ok (.invokevirtual 79, 3) := by decide +kernel
theorem dL_law_766 : decode cL_law 766 = .ok (.if_icmp .eq 616, 3) := by decide +kernel
theorem dL_law_769 : decode cL_law 769 = .ok (.iconst 0, 1) := by decide +kernel
theorem dL_law_770 : decode cL_law 770 = .ok (.ireturn, 1) := by decide +kernel
theorem dL_law_771 : decode cL_law 771 = .ok (.aload_n 1, 1) := by decide +kernel
theorem dL_law_772 : decode cL_law 772 = .ok (.invokevirtual 80, 3) := by decide +kernel
theorem dL_law_775 : decode cL_law 775 = .ok (.aload_n 2, 1) := by decide +kernel
theorem dL_law_776 : decode cL_law 776 = .ok (.invokevirtual 83, 3) := by decide +kernel
theorem dL_law_779 : decode cL_law 779 = .ok (.if_icmp .eq 603, 3) := by decide +kernel
theorem dL_law_782 : decode cL_law 782 = .ok (.iconst 0, 1) := by decide +kernel
theorem dL_law_783 : decode cL_law 783 = .ok (.ireturn, 1) := by decide +kernel
theorem dL_law_784 : decode cL_law 784 = .ok (.aload_n 1, 1) := by decide +kernel
theorem dL_law_785 : decode cL_law 785 = .ok (.aload_n 0, 1) := by decide +kernel
theorem dL_law_786 : decode cL_law 786 = .ok (.iload_n 3, 1) := by decide +kernel
theorem dL_law_787 : decode cL_law 787 = .ok (.iconst 1, 1) := by decide +kernel
theorem dL_law_788 : decode cL_law 788 = .ok (.iadd, 1) := by decide +kernel
theorem dL_law_789 : decode cL_law 789 = .ok (.iaload, 1) := by decide +kernel
theorem dL_law_790 : decode cL_law 790 = .ok (.aload_n 0, 1) := by decide +kernel
theorem dL_law_791 : decode cL_law 791 = .ok (.iload_n 3, 1) := by decide +kernel
theorem dL_law_792 : decode cL_law 792 = .ok (.iconst 2, 1) := by decide +kernel
theorem dL_law_793 : decode cL_law 793 = .ok (.iadd, 1) := by decide +kernel
theorem dL_law_794 : decode cL_law 794 = .ok (.iaload, 1) := by decide +kernel
theorem dL_law_795 : decode cL_law 795 = .ok (.invokevirtual 84, 3) := by decide +kernel
theorem dL_law_798 : decode cL_law 798 = .ok (.aload_n 2, 1) := by decide +kernel
theorem dL_law_799 : decode cL_law 799 = .ok (.aload_n 0, 1) := by decide +kernel
theorem dL_law_800 : decode cL_law 800 = .ok (.iload_n 3, 1) := by decide +kernel
theorem dL_law_801 : decode cL_law 801 = .ok (.iconst 1, 1) := by decide +kernel
theorem dL_law_802 : decode cL_law 802 = .ok (.iadd, 1) := by decide +kernel
theorem dL_law_803 : decode cL_law 803 = .ok (.iaload, 1) := by decide +kernel
theorem dL_law_804 : decode cL_law 804 = .ok (.aload_n 0, 1) := by decide +kernel
theorem dL_law_805 : decode cL_law 805 = .ok (.iload_n 3, 1) := by decide +kernel
theorem dL_law_806 : decode cL_law 806 = .ok (.iconst 2, 1) := by decide +kernel
theorem dL_law_807 : decode cL_law 807 = .ok (.iadd, 1) := by decide +kernel
theorem dL_law_808 : decode cL_law 808 = .ok (.iaload, 1) := by decide +kernel
theorem dL_law_809 : decode cL_law 809 = .ok (.invokevirtual 87, 3) := by decide +kernel
theorem dL_law_812 : decode cL_law 812 = .ok (.if_icmp .eq 570, 3) := by decide +kernel
theorem dL_law_815 : decode cL_law 815 = .ok (.iconst 0, 1) := by decide +kernel
theorem dL_law_816 : decode cL_law 816 = .ok (.ireturn, 1) := by decide +kernel
theorem dL_law_817 : decode cL_law 817 = .ok (.aload_n 1, 1) := by decide +kernel
theorem dL_law_818 : decode cL_law 818 = .ok (.aload_n 0, 1) := by decide +kernel
theorem dL_law_819 : decode cL_law 819 = .ok (.iload_n 3, 1) := by decide +kernel
theorem dL_law_820 : decode cL_law 820 = .ok (.iconst 1, 1) := by decide +kernel
theorem dL_law_821 : decode cL_law 821 = .ok (.iadd, 1) := by decide +kernel
theorem dL_law_822 : decode cL_law 822 = .ok (.iaload, 1) := by decide +kernel
theorem dL_law_823 : decode cL_law 823 = .ok (.aload_n 0, 1) := by decide +kernel
theorem dL_law_824 : decode cL_law 824 = .ok (.iload_n 3, 1) := by decide +kernel
theorem dL_law_825 : decode cL_law 825 = .ok (.iconst 2, 1) := by decide +kernel
theorem dL_law_826 : decode cL_law 826 = .ok (.iadd, 1) := by decide +kernel
theorem dL_law_827 : decode cL_law 827 = .ok (.iaload, 1) := by decide +kernel
theorem dL_law_828 : decode cL_law 828 = .ok (.aload_n 0, 1) := by decide +kernel
theorem dL_law_829 : decode cL_law 829 = .ok (.iload_n 3, 1) := by decide +kernel
theorem dL_law_830 : decode cL_law 830 = .ok (.iconst 3, 1) := by decide +kernel
theorem dL_law_831 : decode cL_law 831 = .ok (.iadd, 1) := by decide +kernel
theorem dL_law_832 : decode cL_law 832 = .ok (.iaload, 1) := by decide +kernel
theorem dL_law_833 : decode cL_law 833 = .ok (.invokevirtual 88, 3) := by decide +kernel
theorem dL_law_836 : decode cL_law 836 = .ok (.aload_n 2, 1) := by decide +kernel
theorem dL_law_837 : decode cL_law 837 = .ok (.aload_n 0, 1) := by decide +kernel
theorem dL_law_838 : decode cL_law 838 = .ok (.iload_n 3, 1) := by decide +kernel
theorem dL_law_839 : decode cL_law 839 = .ok (.iconst 1, 1) := by decide +kernel
theorem dL_law_840 : decode cL_law 840 = .ok (.iadd, 1) := by decide +kernel
theorem dL_law_841 : decode cL_law 841 = .ok (.iaload, 1) := by decide +kernel
theorem dL_law_842 : decode cL_law 842 = .ok (.aload_n 0, 1) := by decide +kernel
theorem dL_law_843 : decode cL_law 843 = .ok (.iload_n 3, 1) := by decide +kernel
theorem dL_law_844 : decode cL_law 844 = .ok (.iconst 2, 1) := by decide +kernel
theorem dL_law_845 : decode cL_law 845 = .ok (.iadd, 1) := by decide +kernel
theorem dL_law_846 : decode cL_law 846 = .ok (.iaload, 1) := by decide +kernel
theorem dL_law_847 : decode cL_law 847 = .ok (.aload_n 0, 1) := by decide +kernel
theorem dL_law_848 : decode cL_law 848 = .ok (.iload_n 3, 1) := by decide +kernel
theorem dL_law_849 : decode cL_law 849 = .ok (.iconst 3, 1) := by decide +kernel
theorem dL_law_850 : decode cL_law 850 = .ok (.iadd, 1) := by decide +kernel
theorem dL_law_851 : decode cL_law 851 = .ok (.iaload, 1) := by decide +kernel
theorem dL_law_852 : decode cL_law 852 = .ok (.invokevirtual 91, 3) := by decide +kernel
theorem dL_law_855 : decode cL_law 855 = .ok (.if_icmp .eq 527, 3) := by decide +kernel
theorem dL_law_858 : decode cL_law 858 = .ok (.iconst 0, 1) := by decide +kernel
theorem dL_law_859 : decode cL_law 859 = .ok (.ireturn, 1) := by decide +kernel
theorem dL_law_860 : decode cL_law 860 = .ok (.aload_n 1, 1) := by decide +kernel
theorem dL_law_861 : decode cL_law 861 = .ok (.aload_n 0, 1) := by decide +kernel
theorem dL_law_862 : decode cL_law 862 = .ok (.iload_n 3, 1) := by decide +kernel
theorem dL_law_863 : decode cL_law 863 = .ok (.iconst 1, 1) := by decide +kernel
theorem dL_law_864 : decode cL_law 864 = .ok (.iadd, 1) := by decide +kernel
theorem dL_law_865 : decode cL_law 865 = .ok (.iaload, 1) := by decide +kernel
theorem dL_law_866 : decode cL_law 866 = .ok (.aload_n 0, 1) := by decide +kernel
theorem dL_law_867 : decode cL_law 867 = .ok (.iload_n 3, 1) := by decide +kernel
theorem dL_law_868 : decode cL_law 868 = .ok (.iconst 2, 1) := by decide +kernel
theorem dL_law_869 : decode cL_law 869 = .ok (.iadd, 1) := by decide +kernel
theorem dL_law_870 : decode cL_law 870 = .ok (.iaload, 1) := by decide +kernel
theorem dL_law_871 : decode cL_law 871 = .ok (.invokevirtual 92, 3) := by decide +kernel
theorem dL_law_874 : decode cL_law 874 = .ok (.aload_n 2, 1) := by decide +kernel
theorem dL_law_875 : decode cL_law 875 = .ok (.aload_n 0, 1) := by decide +kernel
theorem dL_law_876 : decode cL_law 876 = .ok (.iload_n 3, 1) := by decide +kernel
theorem dL_law_877 : decode cL_law 877 = .ok (.iconst 1, 1) := by decide +kernel
theorem dL_law_878 : decode cL_law 878 = .ok (.iadd, 1) := by decide +kernel
theorem dL_law_879 : decode cL_law 879 = .ok (.iaload, 1) := by decide +kernel
theorem dL_law_880 : decode cL_law 880 = .ok (.aload_n 0, 1) := by decide +kernel
theorem dL_law_881 : decode cL_law 881 = .ok (.iload_n 3, 1) := by decide +kernel
theorem dL_law_882 : decode cL_law 882 = .ok (.iconst 2, 1) := by decide +kernel
theorem dL_law_883 : decode cL_law 883 = .ok (.iadd, 1) := by decide +kernel
theorem dL_law_884 : decode cL_law 884 = .ok (.iaload, 1) := by decide +kernel
theorem dL_law_885 : decode cL_law 885 = .ok (.invokevirtual 95, 3) := by decide +kernel
theorem dL_law_888 : decode cL_law 888 = .ok (.if_icmp .eq 494, 3) := by decide +kernel
theorem dL_law_891 : decode cL_law 891 = .ok (.iconst 0, 1) := by decide +kernel
theorem dL_law_892 : decode cL_law 892 = .ok (.ireturn, 1) := by decide +kernel
theorem dL_law_893 : decode cL_law 893 = .ok (.aload_n 1, 1) := by decide +kernel
theorem dL_law_894 : decode cL_law 894 = .ok (.aload_n 0, 1) := by decide +kernel
theorem dL_law_895 : decode cL_law 895 = .ok (.iload_n 3, 1) := by decide +kernel
theorem dL_law_896 : decode cL_law 896 = .ok (.iconst 1, 1) := by decide +kernel
theorem dL_law_897 : decode cL_law 897 = .ok (.iadd, 1) := by decide +kernel
theorem dL_law_898 : decode cL_law 898 = .ok (.iaload, 1) := by decide +kernel
theorem dL_law_899 : decode cL_law 899 = .ok (.aload_n 0, 1) := by decide +kernel
theorem dL_law_900 : decode cL_law 900 = .ok (.iload_n 3, 1) := by decide +kernel
theorem dL_law_901 : decode cL_law 901 = .ok (.iconst 2, 1) := by decide +kernel
theorem dL_law_902 : decode cL_law 902 = .ok (.iadd, 1) := by decide +kernel
theorem dL_law_903 : decode cL_law 903 = .ok (.iaload, 1) := by decide +kernel
theorem dL_law_904 : decode cL_law 904 = .ok (.aload_n 0, 1) := by decide +kernel
theorem dL_law_905 : decode cL_law 905 = .ok (.iload_n 3, 1) := by decide +kernel
theorem dL_law_906 : decode cL_law 906 = .ok (.iconst 3, 1) := by decide +kernel
theorem dL_law_907 : decode cL_law 907 = .ok (.iadd, 1) := by decide +kernel
theorem dL_law_908 : decode cL_law 908 = .ok (.iaload, 1) := by decide +kernel
theorem dL_law_909 : decode cL_law 909 = .ok (.aload_n 0, 1) := by decide +kernel
theorem dL_law_910 : decode cL_law 910 = .ok (.iload_n 3, 1) := by decide +kernel
theorem dL_law_911 : decode cL_law 911 = .ok (.iconst 4, 1) := by decide +kernel
theorem dL_law_912 : decode cL_law 912 = .ok (.iadd, 1) := by decide +kernel
theorem dL_law_913 : decode cL_law 913 = .ok (.iaload, 1) := by decide +kernel
theorem dL_law_914 : decode cL_law 914 = .ok (.invokevirtual 96, 3) := by decide +kernel
theorem dL_law_917 : decode cL_law 917 = .ok (.aload_n 2, 1) := by decide +kernel
theorem dL_law_918 : decode cL_law 918 = .ok (.aload_n 0, 1) := by decide +kernel
theorem dL_law_919 : decode cL_law 919 = .ok (.iload_n 3, 1) := by decide +kernel
theorem dL_law_920 : decode cL_law 920 = .ok (.iconst 1, 1) := by decide +kernel
theorem dL_law_921 : decode cL_law 921 = .ok (.iadd, 1) := by decide +kernel
theorem dL_law_922 : decode cL_law 922 = .ok (.iaload, 1) := by decide +kernel
theorem dL_law_923 : decode cL_law 923 = .ok (.aload_n 0, 1) := by decide +kernel
theorem dL_law_924 : decode cL_law 924 = .ok (.iload_n 3, 1) := by decide +kernel
theorem dL_law_925 : decode cL_law 925 = .ok (.iconst 2, 1) := by decide +kernel
theorem dL_law_926 : decode cL_law 926 = .ok (.iadd, 1) := by decide +kernel
theorem dL_law_927 : decode cL_law 927 = .ok (.iaload, 1) := by decide +kernel
theorem dL_law_928 : decode cL_law 928 = .ok (.aload_n 0, 1) := by decide +kernel
theorem dL_law_929 : decode cL_law 929 = .ok (.iload_n 3, 1) := by decide +kernel
theorem dL_law_930 : decode cL_law 930 = .ok (.iconst 3, 1) := by decide +kernel
theorem dL_law_931 : decode cL_law 931 = .ok (.iadd, 1) := by decide +kernel
theorem dL_law_932 : decode cL_law 932 = .ok (.iaload, 1) := by decide +kernel
theorem dL_law_933 : decode cL_law 933 = .ok (.aload_n 0, 1) := by decide +kernel
theorem dL_law_934 : decode cL_law 934 = .ok (.iload_n 3, 1) := by decide +kernel
theorem dL_law_935 : decode cL_law 935 = .ok (.iconst 4, 1) := by decide +kernel
theorem dL_law_936 : decode cL_law 936 = .ok (.iadd, 1) := by decide +kernel
theorem dL_law_937 : decode cL_law 937 = .ok (.iaload, 1) := by decide +kernel
theorem dL_law_938 : decode cL_law 938 = .ok (.invokevirtual 99, 3) := by decide +kernel
theorem dL_law_941 : decode cL_law 941 = .ok (.if_icmp .eq 441, 3) := by decide +kernel
theorem dL_law_944 : decode cL_law 944 = .ok (.iconst 0, 1) := by decide +kernel
theorem dL_law_945 : decode cL_law 945 = .ok (.ireturn, 1) := by decide +kernel
theorem dL_law_946 : decode cL_law 946 = .ok (.aload_n 1, 1) := by decide +kernel
theorem dL_law_947 : decode cL_law 947 = .ok (.aload_n 0, 1) := by decide +kernel
theorem dL_law_948 : decode cL_law 948 = .ok (.iload_n 3, 1) := by decide +kernel
theorem dL_law_949 : decode cL_law 949 = .ok (.iconst 1, 1) := by decide +kernel
theorem dL_law_950 : decode cL_law 950 = .ok (.iadd, 1) := by decide +kernel
theorem dL_law_951 : decode cL_law 951 = .ok (.iaload, 1) := by decide +kernel
theorem dL_law_952 : decode cL_law 952 = .ok (.aload_n 0, 1) := by decide +kernel
theorem dL_law_953 : decode cL_law 953 = .ok (.iload_n 3, 1) := by decide +kernel
theorem dL_law_954 : decode cL_law 954 = .ok (.iconst 2, 1) := by decide +kernel
theorem dL_law_955 : decode cL_law 955 = .ok (.iadd, 1) := by decide +kernel
theorem dL_law_956 : decode cL_law 956 = .ok (.iaload, 1) := by decide +kernel
theorem dL_law_957 : decode cL_law 957 = .ok (.aload_n 0, 1) := by decide +kernel
theorem dL_law_958 : decode cL_law 958 = .ok (.iload_n 3, 1) := by decide +kernel
theorem dL_law_959 : decode cL_law 959 = .ok (.iconst 3, 1) := by decide +kernel
theorem dL_law_960 : decode cL_law 960 = .ok (.iadd, 1) := by decide +kernel
theorem dL_law_961 : decode cL_law 961 = .ok (.iaload, 1) := by decide +kernel
theorem dL_law_962 : decode cL_law 962 = .ok (.aload_n 0, 1) := by decide +kernel
theorem dL_law_963 : decode cL_law 963 = .ok (.iload_n 3, 1) := by decide +kernel
theorem dL_law_964 : decode cL_law 964 = .ok (.iconst 4, 1) := by decide +kernel
theorem dL_law_965 : decode cL_law 965 = .ok (.iadd, 1) := by decide +kernel
theorem dL_law_966 : decode cL_law 966 = .ok (.iaload, 1) := by decide +kernel
theorem dL_law_967 : decode cL_law 967 = .ok (.invokevirtual 100, 3) := by decide +kernel
theorem dL_law_970 : decode cL_law 970 = .ok (.aload_n 2, 1) := by decide +kernel
theorem dL_law_971 : decode cL_law 971 = .ok (.aload_n 0, 1) := by decide +kernel
theorem dL_law_972 : decode cL_law 972 = .ok (.iload_n 3, 1) := by decide +kernel
theorem dL_law_973 : decode cL_law 973 = .ok (.iconst 1, 1) := by decide +kernel
theorem dL_law_974 : decode cL_law 974 = .ok (.iadd, 1) := by decide +kernel
theorem dL_law_975 : decode cL_law 975 = .ok (.iaload, 1) := by decide +kernel
theorem dL_law_976 : decode cL_law 976 = .ok (.aload_n 0, 1) := by decide +kernel
theorem dL_law_977 : decode cL_law 977 = .ok (.iload_n 3, 1) := by decide +kernel
theorem dL_law_978 : decode cL_law 978 = .ok (.iconst 2, 1) := by decide +kernel
theorem dL_law_979 : decode cL_law 979 = .ok (.iadd, 1) := by decide +kernel
theorem dL_law_980 : decode cL_law 980 = .ok (.iaload, 1) := by decide +kernel
theorem dL_law_981 : decode cL_law 981 = .ok (.aload_n 0, 1) := by decide +kernel
theorem dL_law_982 : decode cL_law 982 = .ok (.iload_n 3, 1) := by decide +kernel
theorem dL_law_983 : decode cL_law 983 = .ok (.iconst 3, 1) := by decide +kernel
theorem dL_law_984 : decode cL_law 984 = .ok (.iadd, 1) := by decide +kernel
theorem dL_law_985 : decode cL_law 985 = .ok (.iaload, 1) := by decide +kernel
theorem dL_law_986 : decode cL_law 986 = .ok (.aload_n 0, 1) := by decide +kernel
theorem dL_law_987 : decode cL_law 987 = .ok (.iload_n 3, 1) := by decide +kernel
theorem dL_law_988 : decode cL_law 988 = .ok (.iconst 4, 1) := by decide +kernel
theorem dL_law_989 : decode cL_law 989 = .ok (.iadd, 1) := by decide +kernel
theorem dL_law_990 : decode cL_law 990 = .ok (.iaload, 1) := by decide +kernel
theorem dL_law_991 : decode cL_law 991 = .ok (.invokevirtual 103, 3) := by decide +kernel
theorem dL_law_994 : decode cL_law 994 = .ok (.if_icmp .eq 388, 3) := by decide +kernel
theorem dL_law_997 : decode cL_law 997 = .ok (.iconst 0, 1) := by decide +kernel
theorem dL_law_998 : decode cL_law 998 = .ok (.ireturn, 1) := by decide +kernel
theorem dL_law_999 : decode cL_law 999 = .ok (.aload_n 1, 1) := by decide +kernel
theorem dL_law_1000 : decode cL_law 1000 = .ok (.aload_n 0, 1) := by decide +kernel
theorem dL_law_1001 : decode cL_law 1001 = .ok (.iload_n 3, 1) := by decide +kernel
theorem dL_law_1002 : decode cL_law 1002 = .ok (.iconst 1, 1) := by decide +kernel
theorem dL_law_1003 : decode cL_law 1003 = .ok (.iadd, 1) := by decide +kernel
theorem dL_law_1004 : decode cL_law 1004 = .ok (.iaload, 1) := by decide +kernel
theorem dL_law_1005 : decode cL_law 1005 = .ok (.aload_n 0, 1) := by decide +kernel
theorem dL_law_1006 : decode cL_law 1006 = .ok (.iload_n 3, 1) := by decide +kernel
theorem dL_law_1007 : decode cL_law 1007 = .ok (.iconst 2, 1) := by decide +kernel
theorem dL_law_1008 : decode cL_law 1008 = .ok (.iadd, 1) := by decide +kernel
theorem dL_law_1009 : decode cL_law 1009 = .ok (.iaload, 1) := by decide +kernel
theorem dL_law_1010 : decode cL_law 1010 = .ok (.invokevirtual 104, 3) := by decide +kernel
theorem dL_law_1013 : decode cL_law 1013 = .ok (.aload_n 2, 1) := by decide +kernel
theorem dL_law_1014 : decode cL_law 1014 = .ok (.aload_n 0, 1) := by decide +kernel
theorem dL_law_1015 : decode cL_law 1015 = .ok (.iload_n 3, 1) := by decide +kernel
theorem dL_law_1016 : decode cL_law 1016 = .ok (.iconst 1, 1) := by decide +kernel
theorem dL_law_1017 : decode cL_law 1017 = .ok (.iadd, 1) := by decide +kernel
theorem dL_law_1018 : decode cL_law 1018 = .ok (.iaload, 1) := by decide +kernel
theorem dL_law_1019 : decode cL_law 1019 = .ok (.aload_n 0, 1) := by decide +kernel
theorem dL_law_1020 : decode cL_law 1020 = .ok (.iload_n 3, 1) := by decide +kernel
theorem dL_law_1021 : decode cL_law 1021 = .ok (.iconst 2, 1) := by decide +kernel
theorem dL_law_1022 : decode cL_law 1022 = .ok (.iadd, 1) := by decide +kernel
theorem dL_law_1023 : decode cL_law 1023 = .ok (.iaload, 1) := by decide +kernel
theorem dL_law_1024 : decode cL_law 1024 = .ok (.invokevirtual 107, 3) := by decide +kernel
theorem dL_law_1027 : decode cL_law 1027 = .ok (.if_icmp .eq 355, 3) := by decide +kernel
theorem dL_law_1030 : decode cL_law 1030 = .ok (.iconst 0, 1) := by decide +kernel
theorem dL_law_1031 : decode cL_law 1031 = .ok (.ireturn, 1) := by decide +kernel
theorem dL_law_1032 : decode cL_law 1032 = .ok (.aload_n 1, 1) := by decide +kernel
theorem dL_law_1033 : decode cL_law 1033 = .ok (.aload_n 0, 1) := by decide +kernel
theorem dL_law_1034 : decode cL_law 1034 = .ok (.iload_n 3, 1) := by decide +kernel
theorem dL_law_1035 : decode cL_law 1035 = .ok (.iconst 1, 1) := by decide +kernel
theorem dL_law_1036 : decode cL_law 1036 = .ok (.iadd, 1) := by decide +kernel
theorem dL_law_1037 : decode cL_law 1037 = .ok (.iaload, 1) := by decide +kernel
theorem dL_law_1038 : decode cL_law 1038 = .ok (.invokevirtual 108, 3) := by decide +kernel
theorem dL_law_1041 : decode cL_law 1041 = .ok (.aload_n 2, 1) := by decide +kernel
theorem dL_law_1042 : decode cL_law 1042 = .ok (.aload_n 0, 1) := by decide +kernel
theorem dL_law_1043 : decode cL_law 1043 = .ok (.iload_n 3, 1) := by decide +kernel
theorem dL_law_1044 : decode cL_law 1044 = .ok (.iconst 1, 1) := by decide +kernel
theorem dL_law_1045 : decode cL_law 1045 = .ok (.iadd, 1) := by decide +kernel
theorem dL_law_1046 : decode cL_law 1046 = .ok (.iaload, 1) := by decide +kernel
theorem dL_law_1047 : decode cL_law 1047 = .ok (.invokevirtual 111, 3) := by decide +kernel
theorem dL_law_1050 : decode cL_law 1050 = .ok (.if_icmp .eq 332, 3) := by decide +kernel
theorem dL_law_1053 : decode cL_law 1053 = .ok (.iconst 0, 1) := by decide +kernel
theorem dL_law_1054 : decode cL_law 1054 = .ok (.ireturn, 1) := by decide +kernel
theorem dL_law_1055 : decode cL_law 1055 = .ok (.aload_n 1, 1) := by decide +kernel
theorem dL_law_1056 : decode cL_law 1056 = .ok (.aload_n 0, 1) := by decide +kernel
theorem dL_law_1057 : decode cL_law 1057 = .ok (.iload_n 3, 1) := by decide +kernel
theorem dL_law_1058 : decode cL_law 1058 = .ok (.iconst 1, 1) := by decide +kernel
theorem dL_law_1059 : decode cL_law 1059 = .ok (.iadd, 1) := by decide +kernel
theorem dL_law_1060 : decode cL_law 1060 = .ok (.iaload, 1) := by decide +kernel
theorem dL_law_1061 : decode cL_law 1061 = .ok (.aload_n 0, 1) := by decide +kernel
theorem dL_law_1062 : decode cL_law 1062 = .ok (.iload_n 3, 1) := by decide +kernel
theorem dL_law_1063 : decode cL_law 1063 = .ok (.iconst 2, 1) := by decide +kernel
theorem dL_law_1064 : decode cL_law 1064 = .ok (.iadd, 1) := by decide +kernel
theorem dL_law_1065 : decode cL_law 1065 = .ok (.iaload, 1) := by decide +kernel
theorem dL_law_1066 : decode cL_law 1066 = .ok (.aload_n 0, 1) := by decide +kernel
theorem dL_law_1067 : decode cL_law 1067 = .ok (.iload_n 3, 1) := by decide +kernel
theorem dL_law_1068 : decode cL_law 1068 = .ok (.iconst 3, 1) := by decide +kernel
theorem dL_law_1069 : decode cL_law 1069 = .ok (.iadd, 1) := by decide +kernel
theorem dL_law_1070 : decode cL_law 1070 = .ok (.iaload, 1) := by decide +kernel
theorem dL_law_1071 : decode cL_law 1071 = .ok (.aload_n 0, 1) := by decide +kernel
theorem dL_law_1072 : decode cL_law 1072 = .ok (.iload_n 3, 1) := by decide +kernel
theorem dL_law_1073 : decode cL_law 1073 = .ok (.iconst 4, 1) := by decide +kernel
theorem dL_law_1074 : decode cL_law 1074 = .ok (.iadd, 1) := by decide +kernel
theorem dL_law_1075 : decode cL_law 1075 = .ok (.iaload, 1) := by decide +kernel
theorem dL_law_1076 : decode cL_law 1076 = .ok (.aload_n 0, 1) := by decide +kernel
theorem dL_law_1077 : decode cL_law 1077 = .ok (.iload_n 3, 1) := by decide +kernel
theorem dL_law_1078 : decode cL_law 1078 = .ok (.iconst 5, 1) := by decide +kernel
theorem dL_law_1079 : decode cL_law 1079 = .ok (.iadd, 1) := by decide +kernel
theorem dL_law_1080 : decode cL_law 1080 = .ok (.iaload, 1) := by decide +kernel
theorem dL_law_1081 : decode cL_law 1081 = .ok (.invokevirtual 112, 3) := by decide +kernel
theorem dL_law_1084 : decode cL_law 1084 = .ok (.aload_n 2, 1) := by decide +kernel
theorem dL_law_1085 : decode cL_law 1085 = .ok (.aload_n 0, 1) := by decide +kernel
theorem dL_law_1086 : decode cL_law 1086 = .ok (.iload_n 3, 1) := by decide +kernel
theorem dL_law_1087 : decode cL_law 1087 = .ok (.iconst 1, 1) := by decide +kernel
theorem dL_law_1088 : decode cL_law 1088 = .ok (.iadd, 1) := by decide +kernel
theorem dL_law_1089 : decode cL_law 1089 = .ok (.iaload, 1) := by decide +kernel
theorem dL_law_1090 : decode cL_law 1090 = .ok (.aload_n 0, 1) := by decide +kernel
theorem dL_law_1091 : decode cL_law 1091 = .ok (.iload_n 3, 1) := by decide +kernel
theorem dL_law_1092 : decode cL_law 1092 = .ok (.iconst 2, 1) := by decide +kernel
theorem dL_law_1093 : decode cL_law 1093 = .ok (.iadd, 1) := by decide +kernel
theorem dL_law_1094 : decode cL_law 1094 = .ok (.iaload, 1) := by decide +kernel
theorem dL_law_1095 : decode cL_law 1095 = .ok (.aload_n 0, 1) := by decide +kernel
theorem dL_law_1096 : decode cL_law 1096 = .ok (.iload_n 3, 1) := by decide +kernel
theorem dL_law_1097 : decode cL_law 1097 = .ok (.iconst 3, 1) := by decide +kernel
theorem dL_law_1098 : decode cL_law 1098 = .ok (.iadd, 1) := by decide +kernel
theorem dL_law_1099 : decode cL_law 1099 = .ok (.iaload, 1) := by decide +kernel
theorem dL_law_1100 : decode cL_law 1100 = .ok (.aload_n 0, 1) := by decide +kernel
theorem dL_law_1101 : decode cL_law 1101 = .ok (.iload_n 3, 1) := by decide +kernel
theorem dL_law_1102 : decode cL_law 1102 = .ok (.iconst 4, 1) := by decide +kernel
theorem dL_law_1103 : decode cL_law 1103 = .ok (.iadd, 1) := by decide +kernel
theorem dL_law_1104 : decode cL_law 1104 = .ok (.iaload, 1) := by decide +kernel
theorem dL_law_1105 : decode cL_law 1105 = .ok (.aload_n 0, 1) := by decide +kernel
theorem dL_law_1106 : decode cL_law 1106 = .ok (.iload_n 3, 1) := by decide +kernel
theorem dL_law_1107 : decode cL_law 1107 = .ok (.iconst 5, 1) := by decide +kernel
theorem dL_law_1108 : decode cL_law 1108 = .ok (.iadd, 1) := by decide +kernel
theorem dL_law_1109 : decode cL_law 1109 = .ok (.iaload, 1) := by decide +kernel
theorem dL_law_1110 : decode cL_law 1110 = .ok (.invokevirtual 115, 3) := by decide +kernel
theorem dL_law_1113 : decode cL_law 1113 = .ok (.if_icmp .eq 269, 3) := by decide +kernel
theorem dL_law_1116 : decode cL_law 1116 = .ok (.iconst 0, 1) := by decide +kernel
theorem dL_law_1117 : decode cL_law 1117 = .ok (.ireturn, 1) := by decide +kernel
theorem dL_law_1118 : decode cL_law 1118 = .ok (.aload_n 1, 1) := by decide +kernel
theorem dL_law_1119 : decode cL_law 1119 = .ok (.aload_n 0, 1) := by decide +kernel
theorem dL_law_1120 : decode cL_law 1120 = .ok (.iload_n 3, 1) := by decide +kernel
theorem dL_law_1121 : decode cL_law 1121 = .ok (.iconst 1, 1) := by decide +kernel
theorem dL_law_1122 : decode cL_law 1122 = .ok (.iadd, 1) := by decide +kernel
theorem dL_law_1123 : decode cL_law 1123 = .ok (.iaload, 1) := by decide +kernel
theorem dL_law_1124 : decode cL_law 1124 = .ok (.invokevirtual 116, 3) := by decide +kernel
theorem dL_law_1127 : decode cL_law 1127 = .ok (.aload_n 2, 1) := by decide +kernel
theorem dL_law_1128 : decode cL_law 1128 = .ok (.aload_n 0, 1) := by decide +kernel
theorem dL_law_1129 : decode cL_law 1129 = .ok (.iload_n 3, 1) := by decide +kernel
theorem dL_law_1130 : decode cL_law 1130 = .ok (.iconst 1, 1) := by decide +kernel
theorem dL_law_1131 : decode cL_law 1131 = .ok (.iadd, 1) := by decide +kernel
theorem dL_law_1132 : decode cL_law 1132 = .ok (.iaload, 1) := by decide +kernel
theorem dL_law_1133 : decode cL_law 1133 = .ok (.invokevirtual 120, 3) := by decide +kernel
theorem dL_law_1136 : decode cL_law 1136 = .ok (.if_icmp .eq 246, 3) := by decide +kernel
theorem dL_law_1139 : decode cL_law 1139 = .ok (.iconst 0, 1) := by decide +kernel
theorem dL_law_1140 : decode cL_law 1140 = .ok (.ireturn, 1) := by decide +kernel
theorem dL_law_1141 : decode cL_law 1141 = .ok (.aload_n 1, 1) := by decide +kernel
theorem dL_law_1142 : decode cL_law 1142 = .ok (.invokevirtual 121, 3) := by decide +kernel
theorem dL_law_1145 : decode cL_law 1145 = .ok (.aload_n 2, 1) := by decide +kernel
theorem dL_law_1146 : decode cL_law 1146 = .ok (.invokevirtual 124, 3) := by decide +kernel
theorem dL_law_1149 : decode cL_law 1149 = .ok (.if_icmp .eq 233, 3) := by decide +kernel
theorem dL_law_1152 : decode cL_law 1152 = .ok (.iconst 0, 1) := by decide +kernel
theorem dL_law_1153 : decode cL_law 1153 = .ok (.ireturn, 1) := by decide +kernel
theorem dL_law_1154 : decode cL_law 1154 = .ok (.aload_n 1, 1) := by decide +kernel
theorem dL_law_1155 : decode cL_law 1155 = .ok (.invokevirtual 125, 3) := by decide +kernel
theorem dL_law_1158 : decode cL_law 1158 = .ok (.aload_n 2, 1) := by decide +kernel
theorem dL_law_1159 : decode cL_law 1159 = .ok (.invokevirtual 128, 3) := by decide +kernel
theorem dL_law_1162 : decode cL_law 1162 = .ok (.if_icmp .eq 220, 3) := by decide +kernel
theorem dL_law_1165 : decode cL_law 1165 = .ok (.iconst 0, 1) := by decide +kernel
theorem dL_law_1166 : decode cL_law 1166 = .ok (.ireturn, 1) := by decide +kernel
theorem dL_law_1167 : decode cL_law 1167 = .ok (.aload_n 1, 1) := by decide +kernel
theorem dL_law_1168 : decode cL_law 1168 = .ok (.aload_n 0, 1) := by decide +kernel
theorem dL_law_1169 : decode cL_law 1169 = .ok (.iload_n 3, 1) := by decide +kernel
theorem dL_law_1170 : decode cL_law 1170 = .ok (.iconst 1, 1) := by decide +kernel
theorem dL_law_1171 : decode cL_law 1171 = .ok (.iadd, 1) := by decide +kernel
theorem dL_law_1172 : decode cL_law 1172 = .ok (.iaload, 1) := by decide +kernel
theorem dL_law_1173 : decode cL_law 1173 = .ok (.aload_n 0, 1) := by decide +kernel
theorem dL_law_1174 : decode cL_law 1174 = .ok (.iload_n 3, 1) := by decide +kernel
theorem dL_law_1175 : decode cL_law 1175 = .ok (.iconst 2, 1) := by decide +kernel
theorem dL_law_1176 : decode cL_law 1176 = .ok (.iadd, 1) := by decide +kernel
theorem dL_law_1177 : decode cL_law 1177 = .ok (.iaload, 1) := by decide +kernel
theorem dL_law_1178 : decode cL_law 1178 = .ok (.aload_n 0, 1) := by decide +kernel
theorem dL_law_1179 : decode cL_law 1179 = .ok (.iload_n 3, 1) := by decide +kernel
theorem dL_law_1180 : decode cL_law 1180 = .ok (.iconst 3, 1) := by decide +kernel
theorem dL_law_1181 : decode cL_law 1181 = .ok (.iadd, 1) := by decide +kernel
theorem dL_law_1182 : decode cL_law 1182 = .ok (.iaload, 1) := by decide +kernel
theorem dL_law_1183 : decode cL_law 1183 = .ok (.aload_n 0, 1) := by decide +kernel
theorem dL_law_1184 : decode cL_law 1184 = .ok (.iload_n 3, 1) := by decide +kernel
theorem dL_law_1185 : decode cL_law 1185 = .ok (.iconst 4, 1) := by decide +kernel
theorem dL_law_1186 : decode cL_law 1186 = .ok (.iadd, 1) := by decide +kernel
theorem dL_law_1187 : decode cL_law 1187 = .ok (.iaload, 1) := by decide +kernel
theorem dL_law_1188 : decode cL_law 1188 = .ok (.invokevirtual 129, 3) := by decide +kernel
theorem dL_law_1191 : decode cL_law 1191 = .ok (.aload_n 2, 1) := by decide +kernel
theorem dL_law_1192 : decode cL_law 1192 = .ok (.aload_n 0, 1) := by decide +kernel
theorem dL_law_1193 : decode cL_law 1193 = .ok (.iload_n 3, 1) := by decide +kernel
theorem dL_law_1194 : decode cL_law 1194 = .ok (.iconst 1, 1) := by decide +kernel
theorem dL_law_1195 : decode cL_law 1195 = .ok (.iadd, 1) := by decide +kernel
theorem dL_law_1196 : decode cL_law 1196 = .ok (.iaload, 1) := by decide +kernel
theorem dL_law_1197 : decode cL_law 1197 = .ok (.aload_n 0, 1) := by decide +kernel
theorem dL_law_1198 : decode cL_law 1198 = .ok (.iload_n 3, 1) := by decide +kernel
theorem dL_law_1199 : decode cL_law 1199 = .ok (.iconst 2, 1) := by decide +kernel
theorem dL_law_1200 : decode cL_law 1200 = .ok (.iadd, 1) := by decide +kernel
theorem dL_law_1201 : decode cL_law 1201 = .ok (.iaload, 1) := by decide +kernel
theorem dL_law_1202 : decode cL_law 1202 = .ok (.aload_n 0, 1) := by decide +kernel
theorem dL_law_1203 : decode cL_law 1203 = .ok (.iload_n 3, 1) := by decide +kernel
theorem dL_law_1204 : decode cL_law 1204 = .ok (.iconst 3, 1) := by decide +kernel
theorem dL_law_1205 : decode cL_law 1205 = .ok (.iadd, 1) := by decide +kernel
theorem dL_law_1206 : decode cL_law 1206 = .ok (.iaload, 1) := by decide +kernel
theorem dL_law_1207 : decode cL_law 1207 = .ok (.aload_n 0, 1) := by decide +kernel
theorem dL_law_1208 : decode cL_law 1208 = .ok (.iload_n 3, 1) := by decide +kernel
theorem dL_law_1209 : decode cL_law 1209 = .ok (.iconst 4, 1) := by decide +kernel
theorem dL_law_1210 : decode cL_law 1210 = .ok (.iadd, 1) := by decide +kernel
theorem dL_law_1211 : decode cL_law 1211 = .ok (.iaload, 1) := by decide +kernel
theorem dL_law_1212 : decode cL_law 1212 = .ok (.invokevirtual 132, 3) := by decide +kernel
theorem dL_law_1215 : decode cL_law 1215 = .ok (.if_icmp .eq 167, 3) := by decide +kernel
theorem dL_law_1218 : decode cL_law 1218 = .ok (.iconst 0, 1) := by decide +kernel
theorem dL_law_1219 : decode cL_law 1219 = .ok (.ireturn, 1) := by decide +kernel
theorem dL_law_1220 : decode cL_law 1220 = .ok (.aload_n 1, 1) := by decide +kernel
theorem dL_law_1221 : decode cL_law 1221 = .ok (.aload_n 0, 1) := by decide +kernel
theorem dL_law_1222 : decode cL_law 1222 = .ok (.iload_n 3, 1) := by decide +kernel
theorem dL_law_1223 : decode cL_law 1223 = .ok (.iconst 1, 1) := by decide +kernel
theorem dL_law_1224 : decode cL_law 1224 = .ok (.iadd, 1) := by decide +kernel
theorem dL_law_1225 : decode cL_law 1225 = .ok (.iaload, 1) := by decide +kernel
theorem dL_law_1226 : decode cL_law 1226 = .ok (.aload_n 0, 1) := by decide +kernel
theorem dL_law_1227 : decode cL_law 1227 = .ok (.iload_n 3, 1) := by decide +kernel
theorem dL_law_1228 : decode cL_law 1228 = .ok (.iconst 2, 1) := by decide +kernel
theorem dL_law_1229 : decode cL_law 1229 = .ok (.iadd, 1) := by decide +kernel
theorem dL_law_1230 : decode cL_law 1230 = .ok (.iaload, 1) := by decide +kernel
theorem dL_law_1231 : decode cL_law 1231 = .ok (.aload_n 0, 1) := by decide +kernel
theorem dL_law_1232 : decode cL_law 1232 = .ok (.iload_n 3, 1) := by decide +kernel
theorem dL_law_1233 : decode cL_law 1233 = .ok (.iconst 3, 1) := by decide +kernel
theorem dL_law_1234 : decode cL_law 1234 = .ok (.iadd, 1) := by decide +kernel
theorem dL_law_1235 : decode cL_law 1235 = .ok (.iaload, 1) := by decide +kernel
theorem dL_law_1236 : decode cL_law 1236 = .ok (.aload_n 0, 1) := by decide +kernel
theorem dL_law_1237 : decode cL_law 1237 = .ok (.iload_n 3, 1) := by decide +kernel
theorem dL_law_1238 : decode cL_law 1238 = .ok (.iconst 4, 1) := by decide +kernel
theorem dL_law_1239 : decode cL_law 1239 = .ok (.iadd, 1) := by decide +kernel
theorem dL_law_1240 : decode cL_law 1240 = .ok (.iaload, 1) := by decide +kernel
theorem dL_law_1241 : decode cL_law 1241 = .ok (.invokevirtual 133, 3) := by decide +kernel
theorem dL_law_1244 : decode cL_law 1244 = .ok (.aload_n 2, 1) := by decide +kernel
theorem dL_law_1245 : decode cL_law 1245 = .ok (.aload_n 0, 1) := by decide +kernel
theorem dL_law_1246 : decode cL_law 1246 = .ok (.iload_n 3, 1) := by decide +kernel
theorem dL_law_1247 : decode cL_law 1247 = .ok (.iconst 1, 1) := by decide +kernel
theorem dL_law_1248 : decode cL_law 1248 = .ok (.iadd, 1) := by decide +kernel
theorem dL_law_1249 : decode cL_law 1249 = .ok (.iaload, 1) := by decide +kernel
theorem dL_law_1250 : decode cL_law 1250 = .ok (.aload_n 0, 1) := by decide +kernel
theorem dL_law_1251 : decode cL_law 1251 = .ok (.iload_n 3, 1) := by decide +kernel
theorem dL_law_1252 : decode cL_law 1252 = .ok (.iconst 2, 1) := by decide +kernel
theorem dL_law_1253 : decode cL_law 1253 = .ok (.iadd, 1) := by decide +kernel
theorem dL_law_1254 : decode cL_law 1254 = .ok (.iaload, 1) := by decide +kernel
theorem dL_law_1255 : decode cL_law 1255 = .ok (.aload_n 0, 1) := by decide +kernel
theorem dL_law_1256 : decode cL_law 1256 = .ok (.iload_n 3, 1) := by decide +kernel
theorem dL_law_1257 : decode cL_law 1257 = .ok (.iconst 3, 1) := by decide +kernel
theorem dL_law_1258 : decode cL_law 1258 = .ok (.iadd, 1) := by decide +kernel
theorem dL_law_1259 : decode cL_law 1259 = .ok (.iaload, 1) := by decide +kernel
theorem dL_law_1260 : decode cL_law 1260 = .ok (.aload_n 0, 1) := by decide +kernel
theorem dL_law_1261 : decode cL_law 1261 = .ok (.iload_n 3, 1) := by decide +kernel
theorem dL_law_1262 : decode cL_law 1262 = .ok (.iconst 4, 1) := by decide +kernel
theorem dL_law_1263 : decode cL_law 1263 = .ok (.iadd, 1) := by decide +kernel
theorem dL_law_1264 : decode cL_law 1264 = .ok (.iaload, 1) := by decide +kernel
theorem dL_law_1265 : decode cL_law 1265 = .ok (.invokevirtual 136, 3) := by decide +kernel
theorem dL_law_1268 : decode cL_law 1268 = .ok (.if_icmp .eq 114, 3) := by decide +kernel
theorem dL_law_1271 : decode cL_law 1271 = .ok (.iconst 0, 1) := by decide +kernel
theorem dL_law_1272 : decode cL_law 1272 = .ok (.ireturn, 1) := by decide +kernel
theorem dL_law_1273 : decode cL_law 1273 = .ok (.aload_n 1, 1) := by decide +kernel
theorem dL_law_1274 : decode cL_law 1274 = .ok (.aload_n 0, 1) := by decide +kernel
theorem dL_law_1275 : decode cL_law 1275 = .ok (.iload_n 3, 1) := by decide +kernel
theorem dL_law_1276 : decode cL_law 1276 = .ok (.iconst 1, 1) := by decide +kernel
theorem dL_law_1277 : decode cL_law 1277 = .ok (.iadd, 1) := by decide +kernel
theorem dL_law_1278 : decode cL_law 1278 = .ok (.iaload, 1) := by decide +kernel
theorem dL_law_1279 : decode cL_law 1279 = .ok (.aload_n 0, 1) := by decide +kernel
theorem dL_law_1280 : decode cL_law 1280 = .ok (.iload_n 3, 1) := by decide +kernel
theorem dL_law_1281 : decode cL_law 1281 = .ok (.iconst 2, 1) := by decide +kernel
theorem dL_law_1282 : decode cL_law 1282 = .ok (.iadd, 1) := by decide +kernel
theorem dL_law_1283 : decode cL_law 1283 = .ok (.iaload, 1) := by decide +kernel
theorem dL_law_1284 : decode cL_law 1284 = .ok (.aload_n 0, 1) := by decide +kernel
theorem dL_law_1285 : decode cL_law 1285 = .ok (.iload_n 3, 1) := by decide +kernel
theorem dL_law_1286 : decode cL_law 1286 = .ok (.iconst 3, 1) := by decide +kernel
theorem dL_law_1287 : decode cL_law 1287 = .ok (.iadd, 1) := by decide +kernel
theorem dL_law_1288 : decode cL_law 1288 = .ok (.iaload, 1) := by decide +kernel
theorem dL_law_1289 : decode cL_law 1289 = .ok (.aload_n 0, 1) := by decide +kernel
theorem dL_law_1290 : decode cL_law 1290 = .ok (.iload_n 3, 1) := by decide +kernel
theorem dL_law_1291 : decode cL_law 1291 = .ok (.iconst 4, 1) := by decide +kernel
theorem dL_law_1292 : decode cL_law 1292 = .ok (.iadd, 1) := by decide +kernel
theorem dL_law_1293 : decode cL_law 1293 = .ok (.iaload, 1) := by decide +kernel
theorem dL_law_1294 : decode cL_law 1294 = .ok (.invokevirtual 137, 3) := by decide +kernel
theorem dL_law_1297 : decode cL_law 1297 = .ok (.aload_n 2, 1) := by decide +kernel
theorem dL_law_1298 : decode cL_law 1298 = .ok (.aload_n 0, 1) := by decide +kernel
theorem dL_law_1299 : decode cL_law 1299 = .ok (.iload_n 3, 1) := by decide +kernel
theorem dL_law_1300 : decode cL_law 1300 = .ok (.iconst 1, 1) := by decide +kernel
theorem dL_law_1301 : decode cL_law 1301 = .ok (.iadd, 1) := by decide +kernel
theorem dL_law_1302 : decode cL_law 1302 = .ok (.iaload, 1) := by decide +kernel
theorem dL_law_1303 : decode cL_law 1303 = .ok (.aload_n 0, 1) := by decide +kernel
theorem dL_law_1304 : decode cL_law 1304 = .ok (.iload_n 3, 1) := by decide +kernel
theorem dL_law_1305 : decode cL_law 1305 = .ok (.iconst 2, 1) := by decide +kernel
theorem dL_law_1306 : decode cL_law 1306 = .ok (.iadd, 1) := by decide +kernel
theorem dL_law_1307 : decode cL_law 1307 = .ok (.iaload, 1) := by decide +kernel
theorem dL_law_1308 : decode cL_law 1308 = .ok (.aload_n 0, 1) := by decide +kernel
theorem dL_law_1309 : decode cL_law 1309 = .ok (.iload_n 3, 1) := by decide +kernel
theorem dL_law_1310 : decode cL_law 1310 = .ok (.iconst 3, 1) := by decide +kernel
theorem dL_law_1311 : decode cL_law 1311 = .ok (.iadd, 1) := by decide +kernel
theorem dL_law_1312 : decode cL_law 1312 = .ok (.iaload, 1) := by decide +kernel
theorem dL_law_1313 : decode cL_law 1313 = .ok (.aload_n 0, 1) := by decide +kernel
theorem dL_law_1314 : decode cL_law 1314 = .ok (.iload_n 3, 1) := by decide +kernel
theorem dL_law_1315 : decode cL_law 1315 = .ok (.iconst 4, 1) := by decide +kernel
theorem dL_law_1316 : decode cL_law 1316 = .ok (.iadd, 1) := by decide +kernel
theorem dL_law_1317 : decode cL_law 1317 = .ok (.iaload, 1) := by decide +kernel
theorem dL_law_1318 : decode cL_law 1318 = .ok (.invokevirtual 140, 3) := by decide +kernel
theorem dL_law_1321 : decode cL_law 1321 = .ok (.if_icmp .eq 61, 3) := by decide +kernel
theorem dL_law_1324 : decode cL_law 1324 = .ok (.iconst 0, 1) := by decide +kernel
theorem dL_law_1325 : decode cL_law 1325 = .ok (.ireturn, 1) := by decide +kernel
theorem dL_law_1326 : decode cL_law 1326 = .ok (.aload_n 1, 1) := by decide +kernel
theorem dL_law_1327 : decode cL_law 1327 = .ok (.aload_n 0, 1) := by decide +kernel
theorem dL_law_1328 : decode cL_law 1328 = .ok (.iload_n 3, 1) := by decide +kernel
theorem dL_law_1329 : decode cL_law 1329 = .ok (.iconst 1, 1) := by decide +kernel
theorem dL_law_1330 : decode cL_law 1330 = .ok (.iadd, 1) := by decide +kernel
theorem dL_law_1331 : decode cL_law 1331 = .ok (.iaload, 1) := by decide +kernel
theorem dL_law_1332 : decode cL_law 1332 = .ok (.aload_n 0, 1) := by decide +kernel
theorem dL_law_1333 : decode cL_law 1333 = .ok (.iload_n 3, 1) := by decide +kernel
theorem dL_law_1334 : decode cL_law 1334 = .ok (.iconst 2, 1) := by decide +kernel
theorem dL_law_1335 : decode cL_law 1335 = .ok (.iadd, 1) := by decide +kernel
theorem dL_law_1336 : decode cL_law 1336 = .ok (.iaload, 1) := by decide +kernel
theorem dL_law_1337 : decode cL_law 1337 = .ok (.invokevirtual 141, 3) := by decide +kernel
theorem dL_law_1340 : decode cL_law 1340 = .ok (.aload_n 2, 1) := by decide +kernel
theorem dL_law_1341 : decode cL_law 1341 = .ok (.aload_n 0, 1) := by decide +kernel
theorem dL_law_1342 : decode cL_law 1342 = .ok (.iload_n 3, 1) := by decide +kernel
theorem dL_law_1343 : decode cL_law 1343 = .ok (.iconst 1, 1) := by decide +kernel
theorem dL_law_1344 : decode cL_law 1344 = .ok (.iadd, 1) := by decide +kernel
theorem dL_law_1345 : decode cL_law 1345 = .ok (.iaload, 1) := by decide +kernel
theorem dL_law_1346 : decode cL_law 1346 = .ok (.aload_n 0, 1) := by decide +kernel
theorem dL_law_1347 : decode cL_law 1347 = .ok (.iload_n 3, 1) := by decide +kernel
theorem dL_law_1348 : decode cL_law 1348 = .ok (.iconst 2, 1) := by decide +kernel
theorem dL_law_1349 : decode cL_law 1349 = .ok (.iadd, 1) := by decide +kernel
theorem dL_law_1350 : decode cL_law 1350 = .ok (.iaload, 1) := by decide +kernel
theorem dL_law_1351 : decode cL_law 1351 = .ok (.invokevirtual 144, 3) := by decide +kernel
theorem dL_law_1354 : decode cL_law 1354 = .ok (.if_icmp .eq 28, 3) := by decide +kernel
theorem dL_law_1357 : decode cL_law 1357 = .ok (.iconst 0, 1) := by decide +kernel
theorem dL_law_1358 : decode cL_law 1358 = .ok (.ireturn, 1) := by decide +kernel
theorem dL_law_1359 : decode cL_law 1359 = .ok (.aload_n 1, 1) := by decide +kernel
theorem dL_law_1360 : decode cL_law 1360 = .ok (.aload_n 0, 1) := by decide +kernel
theorem dL_law_1361 : decode cL_law 1361 = .ok (.iload_n 3, 1) := by decide +kernel
theorem dL_law_1362 : decode cL_law 1362 = .ok (.iconst 1, 1) := by decide +kernel
theorem dL_law_1363 : decode cL_law 1363 = .ok (.iadd, 1) := by decide +kernel
theorem dL_law_1364 : decode cL_law 1364 = .ok (.iaload, 1) := by decide +kernel
theorem dL_law_1365 : decode cL_law 1365 = .ok (.invokevirtual 145, 3) := by decide +kernel
theorem dL_law_1368 : decode cL_law 1368 = .ok (.aload_n 2, 1) := by decide +kernel
theorem dL_law_1369 : decode cL_law 1369 = .ok (.aload_n 0, 1) := by decide +kernel
theorem dL_law_1370 : decode cL_law 1370 = .ok (.iload_n 3, 1) := by decide +kernel
theorem dL_law_1371 : decode cL_law 1371 = .ok (.iconst 1, 1) := by decide +kernel
theorem dL_law_1372 : decode cL_law 1372 = .ok (.iadd, 1) := by decide +kernel
theorem dL_law_1373 : decode cL_law 1373 = .ok (.iaload, 1) := by decide +kernel
theorem dL_law_1374 : decode cL_law 1374 = .ok (.invokevirtual 148, 3) := by decide +kernel
theorem dL_law_1377 : decode cL_law 1377 = .ok (.if_icmp .eq 5, 3) := by decide +kernel
theorem dL_law_1380 : decode cL_law 1380 = .ok (.iconst 0, 1) := by decide +kernel
theorem dL_law_1381 : decode cL_law 1381 = .ok (.ireturn, 1) := by decide +kernel
theorem dL_law_1382 : decode cL_law 1382 = .ok (.iinc 3 6, 3) := by decide +kernel
theorem dL_law_1385 : decode cL_law 1385 = .ok (.goto (-1367), 3) := by decide +kernel
theorem dL_law_1388 : decode cL_law 1388 = .ok (.iconst 1, 1) := by decide +kernel
theorem dL_law_1389 : decode cL_law 1389 = .ok (.ireturn, 1) := by decide +kernel
def zS0 : zS := (fun _ _ => 0, fun _ _ => 0, fun _ _ => 0, 0)
def s00 : zS := mkModel (zNn (mkX (zNn zS0 1)) 101)
theorem zcln_0 : zcln zS0 := fun _ _ _ => ⟨rfl, rfl, rfl⟩
theorem cl_00 : zcln (zNn (mkX (zNn zS0 1)) 101) := zcln_N (cl_mkX (s := zNn zS0 1) rfl (zcln_N zcln_0 (by decide))) (by show 100 ≤ 101; decide)
set_option maxRecDepth 100000 in
theorem law_start {l : Launch} {g : zG} {d : Nat} {K : Option Value → zS → Prop} (h : zAt l g (d + 4) 0 200 M_L_law 18 [.ref 1, .ref 64, .ref 164, .int 0] [] s00 K) : zAt l g (d + 4) 0 200 M_L_law 0 [.ref 1, zJ, zJ, zJ] [] zS0 K := by
  refine z_new (n := 0) (q := 64) (c := 7) zCl7 cl_L_7 in_7 ii_7 rfl (by decide) (by decide) zcln_0 (by decide) dL_law_0 rfl ?_
  refine z_dup dL_law_3 rfl rfl ?_
  refine z_callI (y0 := 1) (y1 := 100) (as := []) k_X7_init rfl m_L_9 rfl (c_mkX rfl (zcln_N zcln_0 (by decide)) (K := fun s1 => s1 = mkX (zNn zS0 1)) rfl) rfl (Nat.le_of_ble_eq_true rfl) dL_law_4 (fun _ _ => ⟨rfl, by decide, by decide⟩) rfl ?_
  rintro v _ ⟨rfl, rfl⟩
  show zAt l g (d + 4) 0 200 M_L_law 7 [.ref 1, zJ, zJ, zJ] [.ref 64] _ _
  refine z_astore_n (i := 1) dL_law_7 rfl (by decide) (zokd rfl) rfl ?_
  refine z_new (n := 100) (q := 164) (c := 8) zCl8 cl_L_10 in_8 ii_8 rfl (by decide) (by decide) (cl_mkX (s := zNn zS0 1) rfl (zcln_N zcln_0 (by decide))) (by decide) dL_law_8 rfl ?_
  refine z_dup dL_law_11 rfl rfl ?_
  refine z_callI (y0 := 101) (y1 := 200) (as := []) k_X8_init rfl m_L_12 rfl (c_mkModel rfl cl_00 (K := fun s1 => s1 = s00) rfl) rfl (Nat.le_of_ble_eq_true rfl) dL_law_12 (fun _ _ => ⟨rfl, by decide, by decide⟩) rfl ?_
  rintro v _ ⟨rfl, rfl⟩
  show zAt l g (d + 4) 0 200 M_L_law 15 [.ref 1, .ref 64, zJ, zJ] [.ref 164] _ _
  refine z_astore_n (i := 2) dL_law_15 rfl (by decide) (zokd rfl) rfl ?_
  refine z_iconst (v := 0) dL_law_16 (by decide) rfl ?_
  refine z_istore_n (i := 3) dL_law_17 rfl (by decide) (zokd rfl) rfl ?_
  exact h
theorem zR0_0 {o k : Nat} (h : 264 ≤ o ∨ 61 ≤ k) : zR0 o k = 0 := by
  unfold zR0
  rcases h with h | h
  · repeat rw [if_neg (by omega)]
  · by_cases c : o = 64
    · rw [if_pos c]
      repeat rw [if_neg (by omega)]
    rw [if_neg c]
    clear c
    by_cases c : o = 65
    · rw [if_pos c]
      repeat rw [if_neg (by omega)]
    rw [if_neg c]
    clear c
    by_cases c : o = 68
    · rw [if_pos c]
      repeat rw [if_neg (by omega)]
    rw [if_neg c]
    clear c
    by_cases c : o = 75
    · rw [if_pos c]
      repeat rw [if_neg (by omega)]
    rw [if_neg c]
    clear c
    by_cases c : o = 79
    · rw [if_pos c]
      repeat rw [if_neg (by omega)]
    rw [if_neg c]
    clear c
    by_cases c : o = 85
    · rw [if_pos c]
      repeat rw [if_neg (by omega)]
    rw [if_neg c]
    clear c
    by_cases c : o = 164
    · rw [if_pos c]
      repeat rw [if_neg (by omega)]
    rw [if_neg c]
    clear c
    by_cases c : o = 70
    · rw [if_pos c]
      repeat rw [if_neg (by omega)]
    rw [if_neg c]
    clear c
    by_cases c : o = 71
    · rw [if_pos c]
      repeat rw [if_neg (by omega)]
    rw [if_neg c]
    clear c
    by_cases c : o = 182
    · rw [if_pos c]
      repeat rw [if_neg (by omega)]
    rw [if_neg c]
    clear c
    by_cases c : o = 245
    · rw [if_pos c]
      repeat rw [if_neg (by omega)]
    rw [if_neg c]
    clear c
    by_cases c : o = 248
    · rw [if_pos c]
      repeat rw [if_neg (by omega)]
    rw [if_neg c]
    clear c
    by_cases c : o = 251
    · rw [if_pos c]
      repeat rw [if_neg (by omega)]
    rw [if_neg c]
    clear c
    by_cases c : o = 254
    · rw [if_pos c]
      repeat rw [if_neg (by omega)]
    rw [if_neg c]
    clear c
    by_cases c : o = 262
    · rw [if_pos c]
      repeat rw [if_neg (by omega)]
    rw [if_neg c]
    clear c
    by_cases c : o = 263
    · rw [if_pos c]
      repeat rw [if_neg (by omega)]
    rw [if_neg c]
theorem zR0_b : ∀ o, o < 264 → ∀ k, k < 61 → ¬ zR0 o k = 0 → s00.2.2.1 o k = zR0 o k := by decide +kernel
theorem hR00 : zRok s00 := by
  refine ⟨fun o k h => ?_, Or.inl (by decide +kernel)⟩
  by_cases h1 : o < 264
  · by_cases h2 : k < 61
    · exact zR0_b o h1 k h2 h
    · exact absurd (zR0_0 (Or.inr (by omega))) h
  · exact absurd (zR0_0 (Or.inl (by omega))) h
