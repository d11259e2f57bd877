/-! ===== the law's loop ===== -/
theorem zisL64 {σ : zS} (h : σ.2.2.2 = 200) : zIs σ 0 7 64 := ⟨zCl7, by decide, by decide, fun _ => by rw [h]; decide⟩
theorem zisL164 {σ : zS} (h : σ.2.2.2 = 200) : zIs σ 0 8 164 := ⟨zCl8, by decide, by decide, fun _ => by rw [h]; decide⟩
theorem zyL {n : Nat} (h : n = 200) : 0 ≤ n → n ≤ 200 → n = 200 ∧ 200 ≤ 200 ∧ 200 ≤ 200 := fun _ _ => ⟨h, Nat.le_refl _, Nat.le_refl _⟩
theorem zCall_N {l : Launch} {g : zG} {d z0 z1 : Nat} {M : zM} {as : List Value} {σ : zS} {K : Option Value → zS → Prop} (h : zCall l g d z0 z1 M as σ K) : zCall l g d z0 z1 M as σ (fun v s => K v s ∧ s.2.2.2 = z1) := by
  intro p e ha hc hk s m args below hf happ hP hK
  obtain ⟨n, o, h1, h2, h3, ⟨⟨v, σ', q1, q2, q3, q4⟩, q5⟩, q6⟩ := h p e ha hc hk s m args below hf happ hP hK
  exact ⟨n, o, h1, h2, h3, ⟨⟨v, σ', q1, ⟨q2, q4⟩, q3, q4⟩, q5⟩, q6⟩
set_option maxHeartbeats 4000000 in
set_option maxRecDepth 100000 in
theorem t_L_law_18 {l : Launch} {g : zG} {d : Nat} {s : zS} (hR : zRok s) {x3 : Int32} (hN : s.2.2.2 = 200) {K : Bool → zS → Prop} (h : (if ((Int32.ofNat g.2.2.2.2.1) - (6 : Int32)) < x3 then K true s else (vp_in x3 g.2.2.2.2.1 ∧ (if ((g.2.2.2.2.2 x3.toNatClampNeg) &&& (31 : Int32)) = (0 : Int32) then (vp_in (x3 + (1 : Int32)) g.2.2.2.2.1 ∧ (vp_in (x3 + (2 : Int32)) g.2.2.2.2.1 ∧ (vp_in (x3 + (3 : Int32)) g.2.2.2.2.1 ∧ (zc l g d M_X7_hill [.ref 64, .int (g.2.2.2.2.2 (x3 + (1 : Int32)).toNatClampNeg), .int (g.2.2.2.2.2 (x3 + (2 : Int32)).toNatClampNeg), .int (g.2.2.2.2.2 (x3 + (3 : Int32)).toNatClampNeg)] s (zKi (fun r6 s5 => (vp_in (x3 + (1 : Int32)) g.2.2.2.2.1 ∧ (vp_in (x3 + (2 : Int32)) g.2.2.2.2.1 ∧ (vp_in (x3 + (3 : Int32)) g.2.2.2.2.1 ∧ (zc l g d M_X8_hill [.ref 164, .int (g.2.2.2.2.2 (x3 + (1 : Int32)).toNatClampNeg), .int (g.2.2.2.2.2 (x3 + (2 : Int32)).toNatClampNeg), .int (g.2.2.2.2.2 (x3 + (3 : Int32)).toNatClampNeg)] s5 (zKi (fun r11 s10 => (if r6 = r11 then zAt l g (d + 1) 0 200 M_L_law 18 [.ref 1, .ref 64, .ref 164, .int (x3 + (6 : Int32))] [] s10 (zKz K) else K false s10))))))))))))) else (if ((g.2.2.2.2.2 x3.toNatClampNeg) &&& (31 : Int32)) = (1 : Int32) then (vp_in (x3 + (1 : Int32)) g.2.2.2.2.1 ∧ (zc l g d M_X7_seer [.ref 64, .int (g.2.2.2.2.2 (x3 + (1 : Int32)).toNatClampNeg)] s (zKi (fun r14 s13 => (vp_in (x3 + (1 : Int32)) g.2.2.2.2.1 ∧ (zc l g d M_X8_seer [.ref 164, .int (g.2.2.2.2.2 (x3 + (1 : Int32)).toNatClampNeg)] s13 (zKi (fun r17 s16 => (if r14 = r17 then zAt l g (d + 1) 0 200 M_L_law 18 [.ref 1, .ref 64, .ref 164, .int (x3 + (6 : Int32))] [] s16 (zKz K) else K false s16))))))))) else (if ((g.2.2.2.2.2 x3.toNatClampNeg) &&& (31 : Int32)) = (2 : Int32) then (vp_in (x3 + (1 : Int32)) g.2.2.2.2.1 ∧ (vp_in (x3 + (2 : Int32)) g.2.2.2.2.1 ∧ (vp_in (x3 + (3 : Int32)) g.2.2.2.2.1 ∧ (zc l g d M_X7_star [.ref 64, .int (g.2.2.2.2.2 (x3 + (1 : Int32)).toNatClampNeg), .int (g.2.2.2.2.2 (x3 + (2 : Int32)).toNatClampNeg), .int (g.2.2.2.2.2 (x3 + (3 : Int32)).toNatClampNeg)] s (zKi (fun r22 s21 => (vp_in (x3 + (1 : Int32)) g.2.2.2.2.1 ∧ (vp_in (x3 + (2 : Int32)) g.2.2.2.2.1 ∧ (vp_in (x3 + (3 : Int32)) g.2.2.2.2.1 ∧ (zc l g d M_X8_star [.ref 164, .int (g.2.2.2.2.2 (x3 + (1 : Int32)).toNatClampNeg), .int (g.2.2.2.2.2 (x3 + (2 : Int32)).toNatClampNeg), .int (g.2.2.2.2.2 (x3 + (3 : Int32)).toNatClampNeg)] s21 (zKi (fun r27 s26 => (if r22 = r27 then zAt l g (d + 1) 0 200 M_L_law 18 [.ref 1, .ref 64, .ref 164, .int (x3 + (6 : Int32))] [] s26 (zKz K) else K false s26))))))))))))) else (if ((g.2.2.2.2.2 x3.toNatClampNeg) &&& (31 : Int32)) = (3 : Int32) then (vp_in (x3 + (1 : Int32)) g.2.2.2.2.1 ∧ (vp_in (x3 + (2 : Int32)) g.2.2.2.2.1 ∧ (vp_in (x3 + (3 : Int32)) g.2.2.2.2.1 ∧ (vp_in (x3 + (4 : Int32)) g.2.2.2.2.1 ∧ (vp_in (x3 + (5 : Int32)) g.2.2.2.2.1 ∧ (zc l g d M_X7_flies [.ref 64, .int (g.2.2.2.2.2 (x3 + (1 : Int32)).toNatClampNeg), .int (g.2.2.2.2.2 (x3 + (2 : Int32)).toNatClampNeg), .int (g.2.2.2.2.2 (x3 + (3 : Int32)).toNatClampNeg), .int (g.2.2.2.2.2 (x3 + (4 : Int32)).toNatClampNeg), .int (g.2.2.2.2.2 (x3 + (5 : Int32)).toNatClampNeg)] s (zKi (fun r34 s33 => (vp_in (x3 + (1 : Int32)) g.2.2.2.2.1 ∧ (vp_in (x3 + (2 : Int32)) g.2.2.2.2.1 ∧ (vp_in (x3 + (3 : Int32)) g.2.2.2.2.1 ∧ (vp_in (x3 + (4 : Int32)) g.2.2.2.2.1 ∧ (vp_in (x3 + (5 : Int32)) g.2.2.2.2.1 ∧ (zc l g d M_X8_flies [.ref 164, .int (g.2.2.2.2.2 (x3 + (1 : Int32)).toNatClampNeg), .int (g.2.2.2.2.2 (x3 + (2 : Int32)).toNatClampNeg), .int (g.2.2.2.2.2 (x3 + (3 : Int32)).toNatClampNeg), .int (g.2.2.2.2.2 (x3 + (4 : Int32)).toNatClampNeg), .int (g.2.2.2.2.2 (x3 + (5 : Int32)).toNatClampNeg)] s33 (zKi (fun r41 s40 => (if r34 = r41 then zAt l g (d + 1) 0 200 M_L_law 18 [.ref 1, .ref 64, .ref 164, .int (x3 + (6 : Int32))] [] s40 (zKz K) else K false s40))))))))))))))))) else (if ((g.2.2.2.2.2 x3.toNatClampNeg) &&& (31 : Int32)) = (4 : Int32) then (vp_in (x3 + (1 : Int32)) g.2.2.2.2.1 ∧ (vp_in (x3 + (2 : Int32)) g.2.2.2.2.1 ∧ (vp_in (x3 + (3 : Int32)) g.2.2.2.2.1 ∧ (vp_in (x3 + (4 : Int32)) g.2.2.2.2.1 ∧ (zc l g d M_X7_flare [.ref 64, .int (g.2.2.2.2.2 (x3 + (1 : Int32)).toNatClampNeg), .int (g.2.2.2.2.2 (x3 + (2 : Int32)).toNatClampNeg), .int (g.2.2.2.2.2 (x3 + (3 : Int32)).toNatClampNeg), .int (g.2.2.2.2.2 (x3 + (4 : Int32)).toNatClampNeg)] s (zKi (fun r47 s46 => (vp_in (x3 + (1 : Int32)) g.2.2.2.2.1 ∧ (vp_in (x3 + (2 : Int32)) g.2.2.2.2.1 ∧ (vp_in (x3 + (3 : Int32)) g.2.2.2.2.1 ∧ (vp_in (x3 + (4 : Int32)) g.2.2.2.2.1 ∧ (zc l g d M_X8_flare [.ref 164, .int (g.2.2.2.2.2 (x3 + (1 : Int32)).toNatClampNeg), .int (g.2.2.2.2.2 (x3 + (2 : Int32)).toNatClampNeg), .int (g.2.2.2.2.2 (x3 + (3 : Int32)).toNatClampNeg), .int (g.2.2.2.2.2 (x3 + (4 : Int32)).toNatClampNeg)] s46 (zKi (fun r53 s52 => (if r47 = r53 then zAt l g (d + 1) 0 200 M_L_law 18 [.ref 1, .ref 64, .ref 164, .int (x3 + (6 : Int32))] [] s52 (zKz K) else K false s52))))))))))))))) else (if ((g.2.2.2.2.2 x3.toNatClampNeg) &&& (31 : Int32)) = (5 : Int32) then (vp_in (x3 + (1 : Int32)) g.2.2.2.2.1 ∧ (vp_in (x3 + (2 : Int32)) g.2.2.2.2.1 ∧ (vp_in (x3 + (3 : Int32)) g.2.2.2.2.1 ∧ (vp_in (x3 + (4 : Int32)) g.2.2.2.2.1 ∧ (zc l g d M_X7_lamp [.ref 64, .int (g.2.2.2.2.2 (x3 + (1 : Int32)).toNatClampNeg), .int (g.2.2.2.2.2 (x3 + (2 : Int32)).toNatClampNeg), .int (g.2.2.2.2.2 (x3 + (3 : Int32)).toNatClampNeg), .int (g.2.2.2.2.2 (x3 + (4 : Int32)).toNatClampNeg)] s (zKi (fun r59 s58 => (vp_in (x3 + (1 : Int32)) g.2.2.2.2.1 ∧ (vp_in (x3 + (2 : Int32)) g.2.2.2.2.1 ∧ (vp_in (x3 + (3 : Int32)) g.2.2.2.2.1 ∧ (vp_in (x3 + (4 : Int32)) g.2.2.2.2.1 ∧ (zc l g d M_X8_lamp [.ref 164, .int (g.2.2.2.2.2 (x3 + (1 : Int32)).toNatClampNeg), .int (g.2.2.2.2.2 (x3 + (2 : Int32)).toNatClampNeg), .int (g.2.2.2.2.2 (x3 + (3 : Int32)).toNatClampNeg), .int (g.2.2.2.2.2 (x3 + (4 : Int32)).toNatClampNeg)] s58 (zKi (fun r65 s64 => (if r59 = r65 then zAt l g (d + 1) 0 200 M_L_law 18 [.ref 1, .ref 64, .ref 164, .int (x3 + (6 : Int32))] [] s64 (zKz K) else K false s64))))))))))))))) else (if ((g.2.2.2.2.2 x3.toNatClampNeg) &&& (31 : Int32)) = (6 : Int32) then (vp_in (x3 + (1 : Int32)) g.2.2.2.2.1 ∧ (zc l g d M_X7_ground [.ref 64, .int (g.2.2.2.2.2 (x3 + (1 : Int32)).toNatClampNeg)] s (zKi (fun r68 s67 => (vp_in (x3 + (1 : Int32)) g.2.2.2.2.1 ∧ (zc l g d M_X8_ground [.ref 164, .int (g.2.2.2.2.2 (x3 + (1 : Int32)).toNatClampNeg)] s67 (zKi (fun r71 s70 => (if r68 = r71 then zAt l g (d + 1) 0 200 M_L_law 18 [.ref 1, .ref 64, .ref 164, .int (x3 + (6 : Int32))] [] s70 (zKz K) else K false s70))))))))) else (if ((g.2.2.2.2.2 x3.toNatClampNeg) &&& (31 : Int32)) = (7 : Int32) then (vp_in (x3 + (1 : Int32)) g.2.2.2.2.1 ∧ (vp_in (x3 + (2 : Int32)) g.2.2.2.2.1 ∧ (vp_in (x3 + (3 : Int32)) g.2.2.2.2.1 ∧ (zc l g d M_X7_at [.ref 64, .int (g.2.2.2.2.2 (x3 + (1 : Int32)).toNatClampNeg), .int (g.2.2.2.2.2 (x3 + (2 : Int32)).toNatClampNeg), .int (g.2.2.2.2.2 (x3 + (3 : Int32)).toNatClampNeg)] s (zKi (fun r76 s75 => (vp_in (x3 + (1 : Int32)) g.2.2.2.2.1 ∧ (vp_in (x3 + (2 : Int32)) g.2.2.2.2.1 ∧ (vp_in (x3 + (3 : Int32)) g.2.2.2.2.1 ∧ (zc l g d M_X8_at [.ref 164, .int (g.2.2.2.2.2 (x3 + (1 : Int32)).toNatClampNeg), .int (g.2.2.2.2.2 (x3 + (2 : Int32)).toNatClampNeg), .int (g.2.2.2.2.2 (x3 + (3 : Int32)).toNatClampNeg)] s75 (zKi (fun r81 s80 => (if r76 = r81 then zAt l g (d + 1) 0 200 M_L_law 18 [.ref 1, .ref 64, .ref 164, .int (x3 + (6 : Int32))] [] s80 (zKz K) else K false s80))))))))))))) else (if ((g.2.2.2.2.2 x3.toNatClampNeg) &&& (31 : Int32)) = (8 : Int32) then (vp_in (x3 + (1 : Int32)) g.2.2.2.2.1 ∧ (vp_in (x3 + (2 : Int32)) g.2.2.2.2.1 ∧ (vp_in (x3 + (3 : Int32)) g.2.2.2.2.1 ∧ (vp_in (x3 + (4 : Int32)) g.2.2.2.2.1 ∧ (zc l g d M_X7_seen [.ref 64, .int (g.2.2.2.2.2 (x3 + (1 : Int32)).toNatClampNeg), .int (g.2.2.2.2.2 (x3 + (2 : Int32)).toNatClampNeg), .int (g.2.2.2.2.2 (x3 + (3 : Int32)).toNatClampNeg), .int (g.2.2.2.2.2 (x3 + (4 : Int32)).toNatClampNeg)] s (zKi (fun r87 s86 => (vp_in (x3 + (1 : Int32)) g.2.2.2.2.1 ∧ (vp_in (x3 + (2 : Int32)) g.2.2.2.2.1 ∧ (vp_in (x3 + (3 : Int32)) g.2.2.2.2.1 ∧ (vp_in (x3 + (4 : Int32)) g.2.2.2.2.1 ∧ (zc l g d M_X8_seen [.ref 164, .int (g.2.2.2.2.2 (x3 + (1 : Int32)).toNatClampNeg), .int (g.2.2.2.2.2 (x3 + (2 : Int32)).toNatClampNeg), .int (g.2.2.2.2.2 (x3 + (3 : Int32)).toNatClampNeg), .int (g.2.2.2.2.2 (x3 + (4 : Int32)).toNatClampNeg)] s86 (zKi (fun r93 s92 => (if r87 = r93 then zAt l g (d + 1) 0 200 M_L_law 18 [.ref 1, .ref 64, .ref 164, .int (x3 + (6 : Int32))] [] s92 (zKz K) else K false s92))))))))))))))) else (if ((g.2.2.2.2.2 x3.toNatClampNeg) &&& (31 : Int32)) = (9 : Int32) then (vp_in (x3 + (1 : Int32)) g.2.2.2.2.1 ∧ (vp_in (x3 + (2 : Int32)) g.2.2.2.2.1 ∧ (vp_in (x3 + (3 : Int32)) g.2.2.2.2.1 ∧ (vp_in (x3 + (4 : Int32)) g.2.2.2.2.1 ∧ (vp_in (x3 + (5 : Int32)) g.2.2.2.2.1 ∧ (zc l g d M_X7_tell [.ref 64, .int (g.2.2.2.2.2 (x3 + (1 : Int32)).toNatClampNeg), .int (g.2.2.2.2.2 (x3 + (2 : Int32)).toNatClampNeg), .int (g.2.2.2.2.2 (x3 + (3 : Int32)).toNatClampNeg), .int (g.2.2.2.2.2 (x3 + (4 : Int32)).toNatClampNeg), .int (g.2.2.2.2.2 (x3 + (5 : Int32)).toNatClampNeg)] s (zKi (fun r100 s99 => (vp_in (x3 + (1 : Int32)) g.2.2.2.2.1 ∧ (vp_in (x3 + (2 : Int32)) g.2.2.2.2.1 ∧ (vp_in (x3 + (3 : Int32)) g.2.2.2.2.1 ∧ (vp_in (x3 + (4 : Int32)) g.2.2.2.2.1 ∧ (vp_in (x3 + (5 : Int32)) g.2.2.2.2.1 ∧ (zc l g d M_X8_tell [.ref 164, .int (g.2.2.2.2.2 (x3 + (1 : Int32)).toNatClampNeg), .int (g.2.2.2.2.2 (x3 + (2 : Int32)).toNatClampNeg), .int (g.2.2.2.2.2 (x3 + (3 : Int32)).toNatClampNeg), .int (g.2.2.2.2.2 (x3 + (4 : Int32)).toNatClampNeg), .int (g.2.2.2.2.2 (x3 + (5 : Int32)).toNatClampNeg)] s99 (zKi (fun r107 s106 => (if r100 = r107 then zAt l g (d + 1) 0 200 M_L_law 18 [.ref 1, .ref 64, .ref 164, .int (x3 + (6 : Int32))] [] s106 (zKz K) else K false s106))))))))))))))))) else (if ((g.2.2.2.2.2 x3.toNatClampNeg) &&& (31 : Int32)) = (10 : Int32) then (zc l g d M_X7_undo [.ref 64] s (zKi (fun r109 s108 => (zc l g d M_X8_undo [.ref 164] s108 (zKi (fun r111 s110 => (if r109 = r111 then zAt l g (d + 1) 0 200 M_L_law 18 [.ref 1, .ref 64, .ref 164, .int (x3 + (6 : Int32))] [] s110 (zKz K) else K false s110))))))) else (if ((g.2.2.2.2.2 x3.toNatClampNeg) &&& (31 : Int32)) = (11 : Int32) then (vp_in (x3 + (1 : Int32)) g.2.2.2.2.1 ∧ (vp_in (x3 + (2 : Int32)) g.2.2.2.2.1 ∧ (zc l g d M_X7_off [.ref 64, .int (g.2.2.2.2.2 (x3 + (1 : Int32)).toNatClampNeg), .int (g.2.2.2.2.2 (x3 + (2 : Int32)).toNatClampNeg)] s (zKz (fun b115 s114 => (vp_in (x3 + (1 : Int32)) g.2.2.2.2.1 ∧ (vp_in (x3 + (2 : Int32)) g.2.2.2.2.1 ∧ (zc l g d M_X8_off [.ref 164, .int (g.2.2.2.2.2 (x3 + (1 : Int32)).toNatClampNeg), .int (g.2.2.2.2.2 (x3 + (2 : Int32)).toNatClampNeg)] s114 (zKz (fun b119 s118 => (if (zb b115) = (zb b119) then zAt l g (d + 1) 0 200 M_L_law 18 [.ref 1, .ref 64, .ref 164, .int (x3 + (6 : Int32))] [] s118 (zKz K) else K false s118))))))))))) else (if ((g.2.2.2.2.2 x3.toNatClampNeg) &&& (31 : Int32)) = (12 : Int32) then (vp_in (x3 + (1 : Int32)) g.2.2.2.2.1 ∧ (vp_in (x3 + (2 : Int32)) g.2.2.2.2.1 ∧ (zc l g d M_X7_telling [.ref 64, .int (g.2.2.2.2.2 (x3 + (1 : Int32)).toNatClampNeg), .int (g.2.2.2.2.2 (x3 + (2 : Int32)).toNatClampNeg)] s (zKi (fun r123 s122 => (vp_in (x3 + (1 : Int32)) g.2.2.2.2.1 ∧ (vp_in (x3 + (2 : Int32)) g.2.2.2.2.1 ∧ (zc l g d M_X8_telling [.ref 164, .int (g.2.2.2.2.2 (x3 + (1 : Int32)).toNatClampNeg), .int (g.2.2.2.2.2 (x3 + (2 : Int32)).toNatClampNeg)] s122 (zKi (fun r127 s126 => (if r123 = r127 then zAt l g (d + 1) 0 200 M_L_law 18 [.ref 1, .ref 64, .ref 164, .int (x3 + (6 : Int32))] [] s126 (zKz K) else K false s126))))))))))) else (if ((g.2.2.2.2.2 x3.toNatClampNeg) &&& (31 : Int32)) = (13 : Int32) then (vp_in (x3 + (1 : Int32)) g.2.2.2.2.1 ∧ (vp_in (x3 + (2 : Int32)) g.2.2.2.2.1 ∧ (zc l g d M_X7_fits [.ref 64, .int (g.2.2.2.2.2 (x3 + (1 : Int32)).toNatClampNeg), .int (g.2.2.2.2.2 (x3 + (2 : Int32)).toNatClampNeg)] s (zKi (fun r131 s130 => (vp_in (x3 + (1 : Int32)) g.2.2.2.2.1 ∧ (vp_in (x3 + (2 : Int32)) g.2.2.2.2.1 ∧ (zc l g d M_X8_fits [.ref 164, .int (g.2.2.2.2.2 (x3 + (1 : Int32)).toNatClampNeg), .int (g.2.2.2.2.2 (x3 + (2 : Int32)).toNatClampNeg)] s130 (zKi (fun r135 s134 => (if r131 = r135 then zAt l g (d + 1) 0 200 M_L_law 18 [.ref 1, .ref 64, .ref 164, .int (x3 + (6 : Int32))] [] s134 (zKz K) else K false s134))))))))))) else (if ((g.2.2.2.2.2 x3.toNatClampNeg) &&& (31 : Int32)) = (14 : Int32) then (vp_in (x3 + (1 : Int32)) g.2.2.2.2.1 ∧ (zc l g d M_X7_left [.ref 64, .int (g.2.2.2.2.2 (x3 + (1 : Int32)).toNatClampNeg)] s (zKi (fun r138 s137 => (vp_in (x3 + (1 : Int32)) g.2.2.2.2.1 ∧ (zc l g d M_X8_left [.ref 164, .int (g.2.2.2.2.2 (x3 + (1 : Int32)).toNatClampNeg)] s137 (zKi (fun r141 s140 => (if r138 = r141 then zAt l g (d + 1) 0 200 M_L_law 18 [.ref 1, .ref 64, .ref 164, .int (x3 + (6 : Int32))] [] s140 (zKz K) else K false s140))))))))) else (if ((g.2.2.2.2.2 x3.toNatClampNeg) &&& (31 : Int32)) = (15 : Int32) then (zc l g d M_X7_fewest [.ref 64] s (zKi (fun r143 s142 => (zc l g d M_X8_fewest [.ref 164] s142 (zKi (fun r145 s144 => (if r143 = r145 then zAt l g (d + 1) 0 200 M_L_law 18 [.ref 1, .ref 64, .ref 164, .int (x3 + (6 : Int32))] [] s144 (zKz K) else K false s144))))))) else (if ((g.2.2.2.2.2 x3.toNatClampNeg) &&& (31 : Int32)) = (16 : Int32) then (vp_in (x3 + (1 : Int32)) g.2.2.2.2.1 ∧ (vp_in (x3 + (2 : Int32)) g.2.2.2.2.1 ∧ (zc l g d M_X7_joined [.ref 64, .int (g.2.2.2.2.2 (x3 + (1 : Int32)).toNatClampNeg), .int (g.2.2.2.2.2 (x3 + (2 : Int32)).toNatClampNeg)] s (zKi (fun r149 s148 => (vp_in (x3 + (1 : Int32)) g.2.2.2.2.1 ∧ (vp_in (x3 + (2 : Int32)) g.2.2.2.2.1 ∧ (zc l g d M_X8_joined [.ref 164, .int (g.2.2.2.2.2 (x3 + (1 : Int32)).toNatClampNeg), .int (g.2.2.2.2.2 (x3 + (2 : Int32)).toNatClampNeg)] s148 (zKi (fun r153 s152 => (if r149 = r153 then zAt l g (d + 1) 0 200 M_L_law 18 [.ref 1, .ref 64, .ref 164, .int (x3 + (6 : Int32))] [] s152 (zKz K) else K false s152))))))))))) else (if ((g.2.2.2.2.2 x3.toNatClampNeg) &&& (31 : Int32)) = (17 : Int32) then (vp_in (x3 + (1 : Int32)) g.2.2.2.2.1 ∧ (vp_in (x3 + (2 : Int32)) g.2.2.2.2.1 ∧ (vp_in (x3 + (3 : Int32)) g.2.2.2.2.1 ∧ (zc l g d M_X7_cross [.ref 64, .int (g.2.2.2.2.2 (x3 + (1 : Int32)).toNatClampNeg), .int (g.2.2.2.2.2 (x3 + (2 : Int32)).toNatClampNeg), .int (g.2.2.2.2.2 (x3 + (3 : Int32)).toNatClampNeg)] s (zKi (fun r158 s157 => (vp_in (x3 + (1 : Int32)) g.2.2.2.2.1 ∧ (vp_in (x3 + (2 : Int32)) g.2.2.2.2.1 ∧ (vp_in (x3 + (3 : Int32)) g.2.2.2.2.1 ∧ (zc l g d M_X8_cross [.ref 164, .int (g.2.2.2.2.2 (x3 + (1 : Int32)).toNatClampNeg), .int (g.2.2.2.2.2 (x3 + (2 : Int32)).toNatClampNeg), .int (g.2.2.2.2.2 (x3 + (3 : Int32)).toNatClampNeg)] s157 (zKi (fun r163 s162 => (if r158 = r163 then zAt l g (d + 1) 0 200 M_L_law 18 [.ref 1, .ref 64, .ref 164, .int (x3 + (6 : Int32))] [] s162 (zKz K) else K false s162))))))))))))) else (if ((g.2.2.2.2.2 x3.toNatClampNeg) &&& (31 : Int32)) = (18 : Int32) then (vp_in (x3 + (1 : Int32)) g.2.2.2.2.1 ∧ (vp_in (x3 + (2 : Int32)) g.2.2.2.2.1 ∧ (zc l g d M_X7_out [.ref 64, .int (g.2.2.2.2.2 (x3 + (1 : Int32)).toNatClampNeg), .int (g.2.2.2.2.2 (x3 + (2 : Int32)).toNatClampNeg)] s (zKi (fun r167 s166 => (vp_in (x3 + (1 : Int32)) g.2.2.2.2.1 ∧ (vp_in (x3 + (2 : Int32)) g.2.2.2.2.1 ∧ (zc l g d M_X8_out [.ref 164, .int (g.2.2.2.2.2 (x3 + (1 : Int32)).toNatClampNeg), .int (g.2.2.2.2.2 (x3 + (2 : Int32)).toNatClampNeg)] s166 (zKi (fun r171 s170 => (if r167 = r171 then zAt l g (d + 1) 0 200 M_L_law 18 [.ref 1, .ref 64, .ref 164, .int (x3 + (6 : Int32))] [] s170 (zKz K) else K false s170))))))))))) else (if ((g.2.2.2.2.2 x3.toNatClampNeg) &&& (31 : Int32)) = (19 : Int32) then (vp_in (x3 + (1 : Int32)) g.2.2.2.2.1 ∧ (vp_in (x3 + (2 : Int32)) g.2.2.2.2.1 ∧ (vp_in (x3 + (3 : Int32)) g.2.2.2.2.1 ∧ (vp_in (x3 + (4 : Int32)) g.2.2.2.2.1 ∧ (zc l g d M_X7_outs [.ref 64, .int (g.2.2.2.2.2 (x3 + (1 : Int32)).toNatClampNeg), .int (g.2.2.2.2.2 (x3 + (2 : Int32)).toNatClampNeg), .int (g.2.2.2.2.2 (x3 + (3 : Int32)).toNatClampNeg), .int (g.2.2.2.2.2 (x3 + (4 : Int32)).toNatClampNeg)] s (zKi (fun r177 s176 => (vp_in (x3 + (1 : Int32)) g.2.2.2.2.1 ∧ (vp_in (x3 + (2 : Int32)) g.2.2.2.2.1 ∧ (vp_in (x3 + (3 : Int32)) g.2.2.2.2.1 ∧ (vp_in (x3 + (4 : Int32)) g.2.2.2.2.1 ∧ (zc l g d M_X8_outs [.ref 164, .int (g.2.2.2.2.2 (x3 + (1 : Int32)).toNatClampNeg), .int (g.2.2.2.2.2 (x3 + (2 : Int32)).toNatClampNeg), .int (g.2.2.2.2.2 (x3 + (3 : Int32)).toNatClampNeg), .int (g.2.2.2.2.2 (x3 + (4 : Int32)).toNatClampNeg)] s176 (zKi (fun r183 s182 => (if r177 = r183 then zAt l g (d + 1) 0 200 M_L_law 18 [.ref 1, .ref 64, .ref 164, .int (x3 + (6 : Int32))] [] s182 (zKz K) else K false s182))))))))))))))) else (if ((g.2.2.2.2.2 x3.toNatClampNeg) &&& (31 : Int32)) = (20 : Int32) then (vp_in (x3 + (1 : Int32)) g.2.2.2.2.1 ∧ (vp_in (x3 + (2 : Int32)) g.2.2.2.2.1 ∧ (vp_in (x3 + (3 : Int32)) g.2.2.2.2.1 ∧ (vp_in (x3 + (4 : Int32)) g.2.2.2.2.1 ∧ (zc l g d M_X7_size [.ref 64, .int (g.2.2.2.2.2 (x3 + (1 : Int32)).toNatClampNeg), .int (g.2.2.2.2.2 (x3 + (2 : Int32)).toNatClampNeg), .int (g.2.2.2.2.2 (x3 + (3 : Int32)).toNatClampNeg), .int (g.2.2.2.2.2 (x3 + (4 : Int32)).toNatClampNeg)] s (zKi (fun r189 s188 => (vp_in (x3 + (1 : Int32)) g.2.2.2.2.1 ∧ (vp_in (x3 + (2 : Int32)) g.2.2.2.2.1 ∧ (vp_in (x3 + (3 : Int32)) g.2.2.2.2.1 ∧ (vp_in (x3 + (4 : Int32)) g.2.2.2.2.1 ∧ (zc l g d M_X8_size [.ref 164, .int (g.2.2.2.2.2 (x3 + (1 : Int32)).toNatClampNeg), .int (g.2.2.2.2.2 (x3 + (2 : Int32)).toNatClampNeg), .int (g.2.2.2.2.2 (x3 + (3 : Int32)).toNatClampNeg), .int (g.2.2.2.2.2 (x3 + (4 : Int32)).toNatClampNeg)] s188 (zKi (fun r195 s194 => (if r189 = r195 then zAt l g (d + 1) 0 200 M_L_law 18 [.ref 1, .ref 64, .ref 164, .int (x3 + (6 : Int32))] [] s194 (zKz K) else K false s194))))))))))))))) else (if ((g.2.2.2.2.2 x3.toNatClampNeg) &&& (31 : Int32)) = (21 : Int32) then (vp_in (x3 + (1 : Int32)) g.2.2.2.2.1 ∧ (vp_in (x3 + (2 : Int32)) g.2.2.2.2.1 ∧ (zc l g d M_X7_hulls [.ref 64, .int (g.2.2.2.2.2 (x3 + (1 : Int32)).toNatClampNeg), .int (g.2.2.2.2.2 (x3 + (2 : Int32)).toNatClampNeg)] s (zKi (fun r199 s198 => (vp_in (x3 + (1 : Int32)) g.2.2.2.2.1 ∧ (vp_in (x3 + (2 : Int32)) g.2.2.2.2.1 ∧ (zc l g d M_X8_hulls [.ref 164, .int (g.2.2.2.2.2 (x3 + (1 : Int32)).toNatClampNeg), .int (g.2.2.2.2.2 (x3 + (2 : Int32)).toNatClampNeg)] s198 (zKi (fun r203 s202 => (if r199 = r203 then zAt l g (d + 1) 0 200 M_L_law 18 [.ref 1, .ref 64, .ref 164, .int (x3 + (6 : Int32))] [] s202 (zKz K) else K false s202))))))))))) else (if ((g.2.2.2.2.2 x3.toNatClampNeg) &&& (31 : Int32)) = (22 : Int32) then (vp_in (x3 + (1 : Int32)) g.2.2.2.2.1 ∧ (zc l g d M_X7_ask [.ref 64, .int (g.2.2.2.2.2 (x3 + (1 : Int32)).toNatClampNeg)] s (zKi (fun r206 s205 => (vp_in (x3 + (1 : Int32)) g.2.2.2.2.1 ∧ (zc l g d M_X8_ask [.ref 164, .int (g.2.2.2.2.2 (x3 + (1 : Int32)).toNatClampNeg)] s205 (zKi (fun r209 s208 => (if r206 = r209 then zAt l g (d + 1) 0 200 M_L_law 18 [.ref 1, .ref 64, .ref 164, .int (x3 + (6 : Int32))] [] s208 (zKz K) else K false s208))))))))) else (if ((g.2.2.2.2.2 x3.toNatClampNeg) &&& (31 : Int32)) = (23 : Int32) then (vp_in (x3 + (1 : Int32)) g.2.2.2.2.1 ∧ (vp_in (x3 + (2 : Int32)) g.2.2.2.2.1 ∧ (vp_in (x3 + (3 : Int32)) g.2.2.2.2.1 ∧ (vp_in (x3 + (4 : Int32)) g.2.2.2.2.1 ∧ (vp_in (x3 + (5 : Int32)) g.2.2.2.2.1 ∧ (zc l g d M_X7_feed [.ref 64, .int (g.2.2.2.2.2 (x3 + (1 : Int32)).toNatClampNeg), .int (g.2.2.2.2.2 (x3 + (2 : Int32)).toNatClampNeg), .int (g.2.2.2.2.2 (x3 + (3 : Int32)).toNatClampNeg), .int (g.2.2.2.2.2 (x3 + (4 : Int32)).toNatClampNeg), .int (g.2.2.2.2.2 (x3 + (5 : Int32)).toNatClampNeg)] s (zKi (fun r216 s215 => (vp_in (x3 + (1 : Int32)) g.2.2.2.2.1 ∧ (vp_in (x3 + (2 : Int32)) g.2.2.2.2.1 ∧ (vp_in (x3 + (3 : Int32)) g.2.2.2.2.1 ∧ (vp_in (x3 + (4 : Int32)) g.2.2.2.2.1 ∧ (vp_in (x3 + (5 : Int32)) g.2.2.2.2.1 ∧ (zc l g d M_X8_feed [.ref 164, .int (g.2.2.2.2.2 (x3 + (1 : Int32)).toNatClampNeg), .int (g.2.2.2.2.2 (x3 + (2 : Int32)).toNatClampNeg), .int (g.2.2.2.2.2 (x3 + (3 : Int32)).toNatClampNeg), .int (g.2.2.2.2.2 (x3 + (4 : Int32)).toNatClampNeg), .int (g.2.2.2.2.2 (x3 + (5 : Int32)).toNatClampNeg)] s215 (zKi (fun r223 s222 => (if r216 = r223 then zAt l g (d + 1) 0 200 M_L_law 18 [.ref 1, .ref 64, .ref 164, .int (x3 + (6 : Int32))] [] s222 (zKz K) else K false s222))))))))))))))))) else (if ((g.2.2.2.2.2 x3.toNatClampNeg) &&& (31 : Int32)) = (24 : Int32) then (vp_in (x3 + (1 : Int32)) g.2.2.2.2.1 ∧ (zc l g d M_X7_end [.ref 64, .int (g.2.2.2.2.2 (x3 + (1 : Int32)).toNatClampNeg)] s (zKz (fun b226 s225 => (vp_in (x3 + (1 : Int32)) g.2.2.2.2.1 ∧ (zc l g d M_X8_end [.ref 164, .int (g.2.2.2.2.2 (x3 + (1 : Int32)).toNatClampNeg)] s225 (zKz (fun b229 s228 => (if (zb b226) = (zb b229) then zAt l g (d + 1) 0 200 M_L_law 18 [.ref 1, .ref 64, .ref 164, .int (x3 + (6 : Int32))] [] s228 (zKz K) else K false s228))))))))) else (if ((g.2.2.2.2.2 x3.toNatClampNeg) &&& (31 : Int32)) = (25 : Int32) then (zc l g d M_X7_fault [.ref 64] s (zKi (fun r231 s230 => (zc l g d M_X8_fault [.ref 164] s230 (zKi (fun r233 s232 => (if r231 = r233 then zAt l g (d + 1) 0 200 M_L_law 18 [.ref 1, .ref 64, .ref 164, .int (x3 + (6 : Int32))] [] s232 (zKz K) else K false s232))))))) else (if ((g.2.2.2.2.2 x3.toNatClampNeg) &&& (31 : Int32)) = (26 : Int32) then (zc l g d M_X7_rules [.ref 64] s (zKi (fun r235 s234 => (zc l g d M_X8_rules [.ref 164] s234 (zKi (fun r237 s236 => (if r235 = r237 then zAt l g (d + 1) 0 200 M_L_law 18 [.ref 1, .ref 64, .ref 164, .int (x3 + (6 : Int32))] [] s236 (zKz K) else K false s236))))))) else (if ((g.2.2.2.2.2 x3.toNatClampNeg) &&& (31 : Int32)) = (27 : Int32) then (vp_in (x3 + (1 : Int32)) g.2.2.2.2.1 ∧ (vp_in (x3 + (2 : Int32)) g.2.2.2.2.1 ∧ (vp_in (x3 + (3 : Int32)) g.2.2.2.2.1 ∧ (vp_in (x3 + (4 : Int32)) g.2.2.2.2.1 ∧ (zc l g d M_X7_office [.ref 64, .int (g.2.2.2.2.2 (x3 + (1 : Int32)).toNatClampNeg), .int (g.2.2.2.2.2 (x3 + (2 : Int32)).toNatClampNeg), .int (g.2.2.2.2.2 (x3 + (3 : Int32)).toNatClampNeg), .int (g.2.2.2.2.2 (x3 + (4 : Int32)).toNatClampNeg)] s (zKi (fun r243 s242 => (vp_in (x3 + (1 : Int32)) g.2.2.2.2.1 ∧ (vp_in (x3 + (2 : Int32)) g.2.2.2.2.1 ∧ (vp_in (x3 + (3 : Int32)) g.2.2.2.2.1 ∧ (vp_in (x3 + (4 : Int32)) g.2.2.2.2.1 ∧ (zc l g d M_X8_office [.ref 164, .int (g.2.2.2.2.2 (x3 + (1 : Int32)).toNatClampNeg), .int (g.2.2.2.2.2 (x3 + (2 : Int32)).toNatClampNeg), .int (g.2.2.2.2.2 (x3 + (3 : Int32)).toNatClampNeg), .int (g.2.2.2.2.2 (x3 + (4 : Int32)).toNatClampNeg)] s242 (zKi (fun r249 s248 => (if r243 = r249 then zAt l g (d + 1) 0 200 M_L_law 18 [.ref 1, .ref 64, .ref 164, .int (x3 + (6 : Int32))] [] s248 (zKz K) else K false s248))))))))))))))) else (if ((g.2.2.2.2.2 x3.toNatClampNeg) &&& (31 : Int32)) = (28 : Int32) then (vp_in (x3 + (1 : Int32)) g.2.2.2.2.1 ∧ (vp_in (x3 + (2 : Int32)) g.2.2.2.2.1 ∧ (vp_in (x3 + (3 : Int32)) g.2.2.2.2.1 ∧ (vp_in (x3 + (4 : Int32)) g.2.2.2.2.1 ∧ (zc l g d M_X7_grown [.ref 64, .int (g.2.2.2.2.2 (x3 + (1 : Int32)).toNatClampNeg), .int (g.2.2.2.2.2 (x3 + (2 : Int32)).toNatClampNeg), .int (g.2.2.2.2.2 (x3 + (3 : Int32)).toNatClampNeg), .int (g.2.2.2.2.2 (x3 + (4 : Int32)).toNatClampNeg)] s (zKi (fun r255 s254 => (vp_in (x3 + (1 : Int32)) g.2.2.2.2.1 ∧ (vp_in (x3 + (2 : Int32)) g.2.2.2.2.1 ∧ (vp_in (x3 + (3 : Int32)) g.2.2.2.2.1 ∧ (vp_in (x3 + (4 : Int32)) g.2.2.2.2.1 ∧ (zc l g d M_X8_grown [.ref 164, .int (g.2.2.2.2.2 (x3 + (1 : Int32)).toNatClampNeg), .int (g.2.2.2.2.2 (x3 + (2 : Int32)).toNatClampNeg), .int (g.2.2.2.2.2 (x3 + (3 : Int32)).toNatClampNeg), .int (g.2.2.2.2.2 (x3 + (4 : Int32)).toNatClampNeg)] s254 (zKi (fun r261 s260 => (if r255 = r261 then zAt l g (d + 1) 0 200 M_L_law 18 [.ref 1, .ref 64, .ref 164, .int (x3 + (6 : Int32))] [] s260 (zKz K) else K false s260))))))))))))))) else (if ((g.2.2.2.2.2 x3.toNatClampNeg) &&& (31 : Int32)) = (29 : Int32) then (vp_in (x3 + (1 : Int32)) g.2.2.2.2.1 ∧ (vp_in (x3 + (2 : Int32)) g.2.2.2.2.1 ∧ (vp_in (x3 + (3 : Int32)) g.2.2.2.2.1 ∧ (vp_in (x3 + (4 : Int32)) g.2.2.2.2.1 ∧ (zc l g d M_X7_before [.ref 64, .int (g.2.2.2.2.2 (x3 + (1 : Int32)).toNatClampNeg), .int (g.2.2.2.2.2 (x3 + (2 : Int32)).toNatClampNeg), .int (g.2.2.2.2.2 (x3 + (3 : Int32)).toNatClampNeg), .int (g.2.2.2.2.2 (x3 + (4 : Int32)).toNatClampNeg)] s (zKi (fun r267 s266 => (vp_in (x3 + (1 : Int32)) g.2.2.2.2.1 ∧ (vp_in (x3 + (2 : Int32)) g.2.2.2.2.1 ∧ (vp_in (x3 + (3 : Int32)) g.2.2.2.2.1 ∧ (vp_in (x3 + (4 : Int32)) g.2.2.2.2.1 ∧ (zc l g d M_X8_before [.ref 164, .int (g.2.2.2.2.2 (x3 + (1 : Int32)).toNatClampNeg), .int (g.2.2.2.2.2 (x3 + (2 : Int32)).toNatClampNeg), .int (g.2.2.2.2.2 (x3 + (3 : Int32)).toNatClampNeg), .int (g.2.2.2.2.2 (x3 + (4 : Int32)).toNatClampNeg)] s266 (zKi (fun r273 s272 => (if r267 = r273 then zAt l g (d + 1) 0 200 M_L_law 18 [.ref 1, .ref 64, .ref 164, .int (x3 + (6 : Int32))] [] s272 (zKz K) else K false s272))))))))))))))) else (if ((g.2.2.2.2.2 x3.toNatClampNeg) &&& (31 : Int32)) = (30 : Int32) then (vp_in (x3 + (1 : Int32)) g.2.2.2.2.1 ∧ (vp_in (x3 + (2 : Int32)) g.2.2.2.2.1 ∧ (zc l g d M_X7_draw [.ref 64, .int (g.2.2.2.2.2 (x3 + (1 : Int32)).toNatClampNeg), .int (g.2.2.2.2.2 (x3 + (2 : Int32)).toNatClampNeg)] s (zKi (fun r277 s276 => (vp_in (x3 + (1 : Int32)) g.2.2.2.2.1 ∧ (vp_in (x3 + (2 : Int32)) g.2.2.2.2.1 ∧ (zc l g d M_X8_draw [.ref 164, .int (g.2.2.2.2.2 (x3 + (1 : Int32)).toNatClampNeg), .int (g.2.2.2.2.2 (x3 + (2 : Int32)).toNatClampNeg)] s276 (zKi (fun r281 s280 => (if r277 = r281 then zAt l g (d + 1) 0 200 M_L_law 18 [.ref 1, .ref 64, .ref 164, .int (x3 + (6 : Int32))] [] s280 (zKz K) else K false s280))))))))))) else (if ((g.2.2.2.2.2 x3.toNatClampNeg) &&& (31 : Int32)) = (31 : Int32) then (vp_in (x3 + (1 : Int32)) g.2.2.2.2.1 ∧ (zc l g d M_X7_count [.ref 64, .int (g.2.2.2.2.2 (x3 + (1 : Int32)).toNatClampNeg)] s (zKi (fun r284 s283 => (vp_in (x3 + (1 : Int32)) g.2.2.2.2.1 ∧ (zc l g d M_X8_count [.ref 164, .int (g.2.2.2.2.2 (x3 + (1 : Int32)).toNatClampNeg)] s283 (zKi (fun r287 s286 => (if r284 = r287 then zAt l g (d + 1) 0 200 M_L_law 18 [.ref 1, .ref 64, .ref 164, .int (x3 + (6 : Int32))] [] s286 (zKz K) else K false s286))))))))) else zAt l g (d + 1) 0 200 M_L_law 18 [.ref 1, .ref 64, .ref 164, .int (x3 + (6 : Int32))] [] s (zKz K)))))))))))))))))))))))))))))))))))) : zAt l g (d + 1) 0 200 M_L_law 18 [.ref 1, .ref 64, .ref 164, .int x3] [] s (zKz K) := by
  refine z_iload_n (i := 3) dL_law_18 rfl rfl rfl ?_
  refine z_aload_n (i := 0) dL_law_19 rfl rfl rfl ?_
  refine z_scrl rfl dL_law_20 rfl ?_
  refine z_bipush (v := (6 : Int32)) dL_law_21 (by decide) rfl ?_
  refine z_isub dL_law_23 rfl ?_
  refine z_icmp_gt (pt := 1388) dL_law_24 (by decide) rfl (fun c => ?_) (fun c => ?_)
  · have h := zit h c
    refine z_iconst (v := (1 : Int32)) dL_law_1388 (by decide) rfl ?_
    exact z_ret (some (.int (zb true))) (Or.inr (Or.inl ⟨_, _, rfl, rfl, zb_nar _, dL_law_1389⟩)) (fun _ _ => hN) ⟨_, rfl, h⟩
  · have h := zif h c
    refine z_aload_n (i := 0) dL_law_27 rfl rfl rfl ?_
    refine z_iload_n (i := 3) dL_law_28 rfl rfl rfl ?_
    obtain ⟨a1, h⟩ := h
    refine z_scr rfl a1 dL_law_29 rfl ?_
    refine z_bipush (v := (31 : Int32)) dL_law_30 (by decide) rfl ?_
    refine z_iand dL_law_32 rfl ?_
    by_cases c0 : ((g.2.2.2.2.2 x3.toNatClampNeg) &&& (31 : Int32)) = (0 : Int32)
    · have h := zit h c0
      refine z_tableIn (pt := 176) dL_law_33 (by rw [c0]; decide) (by rw [c0]; decide) (by rw [c0]; rfl) (by decide) ?_
      refine z_aload_n (i := 1) dL_law_176 rfl rfl rfl ?_
      refine z_aload_n (i := 0) dL_law_177 rfl rfl rfl ?_
      refine z_iload_n (i := 3) dL_law_178 rfl rfl rfl ?_
      refine z_iconst (v := (1 : Int32)) dL_law_179 (by decide) rfl ?_
      refine z_iadd dL_law_180 rfl ?_
      obtain ⟨a2, h⟩ := h
      refine z_scr rfl a2 dL_law_181 rfl ?_
      refine z_aload_n (i := 0) dL_law_182 rfl rfl rfl ?_
      refine z_iload_n (i := 3) dL_law_183 rfl rfl rfl ?_
      refine z_iconst (v := (2 : Int32)) dL_law_184 (by decide) rfl ?_
      refine z_iadd dL_law_185 rfl ?_
      obtain ⟨a3, h⟩ := h
      refine z_scr rfl a3 dL_law_186 rfl ?_
      refine z_aload_n (i := 0) dL_law_187 rfl rfl rfl ?_
      refine z_iload_n (i := 3) dL_law_188 rfl rfl rfl ?_
      refine z_iconst (v := (3 : Int32)) dL_law_189 (by decide) rfl ?_
      refine z_iadd dL_law_190 rfl ?_
      obtain ⟨a4, h⟩ := h
      refine z_scr rfl a4 dL_law_191 rfl ?_
      refine z_callV k_X7_hill m_L_13 (zRec_of (zisL64 hN)) rfl (zCall_N h) rfl (Nat.le_of_ble_eq_true rfl) dL_law_192 (zyL hN) rfl ?_
      rintro v s5 ⟨⟨r6, rfl, h⟩, hNs5⟩
      show zAt l g (d + 1) 0 200 M_L_law 195 [.ref 1, .ref 64, .ref 164, .int x3] [.int r6] s5 _
      refine z_aload_n (i := 2) dL_law_195 rfl rfl rfl ?_
      refine z_aload_n (i := 0) dL_law_196 rfl rfl rfl ?_
      refine z_iload_n (i := 3) dL_law_197 rfl rfl rfl ?_
      refine z_iconst (v := (1 : Int32)) dL_law_198 (by decide) rfl ?_
      refine z_iadd dL_law_199 rfl ?_
      obtain ⟨a7, h⟩ := h
      refine z_scr rfl a7 dL_law_200 rfl ?_
      refine z_aload_n (i := 0) dL_law_201 rfl rfl rfl ?_
      refine z_iload_n (i := 3) dL_law_202 rfl rfl rfl ?_
      refine z_iconst (v := (2 : Int32)) dL_law_203 (by decide) rfl ?_
      refine z_iadd dL_law_204 rfl ?_
      obtain ⟨a8, h⟩ := h
      refine z_scr rfl a8 dL_law_205 rfl ?_
      refine z_aload_n (i := 0) dL_law_206 rfl rfl rfl ?_
      refine z_iload_n (i := 3) dL_law_207 rfl rfl rfl ?_
      refine z_iconst (v := (3 : Int32)) dL_law_208 (by decide) rfl ?_
      refine z_iadd dL_law_209 rfl ?_
      obtain ⟨a9, h⟩ := h
      refine z_scr rfl a9 dL_law_210 rfl ?_
      refine z_callV k_X8_hill m_L_17 (zRec_of (zisL164 hNs5)) rfl (zCall_N h) rfl (Nat.le_of_ble_eq_true rfl) dL_law_211 (zyL hNs5) rfl ?_
      rintro v s10 ⟨⟨r11, rfl, h⟩, hNs10⟩
      show zAt l g (d + 1) 0 200 M_L_law 214 [.ref 1, .ref 64, .ref 164, .int x3] [.int r11, .int r6] s10 _
      refine z_icmp_eq (pt := 1382) dL_law_214 (by decide) rfl (fun c => ?_) (fun c => ?_)
      · have h := zit h c
        refine z_iinc (v := x3 + (6 : Int32)) dL_law_1382 rfl rfl (by decide) (zokd rfl) rfl ?_
        show zAt l g (d + 1) 0 200 M_L_law 1385 [.ref 1, .ref 64, .ref 164, .int (x3 + (6 : Int32))] [] s10 _
        refine z_goto (pn := 18) dL_law_1385 (by decide) ?_
        exact h
      · have h := zif h c
        refine z_iconst (v := (0 : Int32)) dL_law_217 (by decide) rfl ?_
        exact z_ret (some (.int (zb false))) (Or.inr (Or.inl ⟨_, _, rfl, rfl, zb_nar _, dL_law_218⟩)) (fun _ _ => hNs10) ⟨_, rfl, h⟩
    have h := zif h c0
    by_cases c1 : ((g.2.2.2.2.2 x3.toNatClampNeg) &&& (31 : Int32)) = (1 : Int32)
    · have h := zit h c1
      refine z_tableIn (pt := 219) dL_law_33 (by rw [c1]; decide) (by rw [c1]; decide) (by rw [c1]; rfl) (by decide) ?_
      refine z_aload_n (i := 1) dL_law_219 rfl rfl rfl ?_
      refine z_aload_n (i := 0) dL_law_220 rfl rfl rfl ?_
      refine z_iload_n (i := 3) dL_law_221 rfl rfl rfl ?_
      refine z_iconst (v := (1 : Int32)) dL_law_222 (by decide) rfl ?_
      refine z_iadd dL_law_223 rfl ?_
      obtain ⟨a12, h⟩ := h
      refine z_scr rfl a12 dL_law_224 rfl ?_
      refine z_callV k_X7_seer m_L_18 (zRec_of (zisL64 hN)) rfl (zCall_N h) rfl (Nat.le_of_ble_eq_true rfl) dL_law_225 (zyL hN) rfl ?_
      rintro v s13 ⟨⟨r14, rfl, h⟩, hNs13⟩
      show zAt l g (d + 1) 0 200 M_L_law 228 [.ref 1, .ref 64, .ref 164, .int x3] [.int r14] s13 _
      refine z_aload_n (i := 2) dL_law_228 rfl rfl rfl ?_
      refine z_aload_n (i := 0) dL_law_229 rfl rfl rfl ?_
      refine z_iload_n (i := 3) dL_law_230 rfl rfl rfl ?_
      refine z_iconst (v := (1 : Int32)) dL_law_231 (by decide) rfl ?_
      refine z_iadd dL_law_232 rfl ?_
      obtain ⟨a15, h⟩ := h
      refine z_scr rfl a15 dL_law_233 rfl ?_
      refine z_callV k_X8_seer m_L_22 (zRec_of (zisL164 hNs13)) rfl (zCall_N h) rfl (Nat.le_of_ble_eq_true rfl) dL_law_234 (zyL hNs13) rfl ?_
      rintro v s16 ⟨⟨r17, rfl, h⟩, hNs16⟩
      show zAt l g (d + 1) 0 200 M_L_law 237 [.ref 1, .ref 64, .ref 164, .int x3] [.int r17, .int r14] s16 _
      refine z_icmp_eq (pt := 1382) dL_law_237 (by decide) rfl (fun c => ?_) (fun c => ?_)
      · have h := zit h c
        refine z_iinc (v := x3 + (6 : Int32)) dL_law_1382 rfl rfl (by decide) (zokd rfl) rfl ?_
        show zAt l g (d + 1) 0 200 M_L_law 1385 [.ref 1, .ref 64, .ref 164, .int (x3 + (6 : Int32))] [] s16 _
        refine z_goto (pn := 18) dL_law_1385 (by decide) ?_
        exact h
      · have h := zif h c
        refine z_iconst (v := (0 : Int32)) dL_law_240 (by decide) rfl ?_
        exact z_ret (some (.int (zb false))) (Or.inr (Or.inl ⟨_, _, rfl, rfl, zb_nar _, dL_law_241⟩)) (fun _ _ => hNs16) ⟨_, rfl, h⟩
    have h := zif h c1
    by_cases c2 : ((g.2.2.2.2.2 x3.toNatClampNeg) &&& (31 : Int32)) = (2 : Int32)
    · have h := zit h c2
      refine z_tableIn (pt := 242) dL_law_33 (by rw [c2]; decide) (by rw [c2]; decide) (by rw [c2]; rfl) (by decide) ?_
      refine z_aload_n (i := 1) dL_law_242 rfl rfl rfl ?_
      refine z_aload_n (i := 0) dL_law_243 rfl rfl rfl ?_
      refine z_iload_n (i := 3) dL_law_244 rfl rfl rfl ?_
      refine z_iconst (v := (1 : Int32)) dL_law_245 (by decide) rfl ?_
      refine z_iadd dL_law_246 rfl ?_
      obtain ⟨a18, h⟩ := h
      refine z_scr rfl a18 dL_law_247 rfl ?_
      refine z_aload_n (i := 0) dL_law_248 rfl rfl rfl ?_
      refine z_iload_n (i := 3) dL_law_249 rfl rfl rfl ?_
      refine z_iconst (v := (2 : Int32)) dL_law_250 (by decide) rfl ?_
      refine z_iadd dL_law_251 rfl ?_
      obtain ⟨a19, h⟩ := h
      refine z_scr rfl a19 dL_law_252 rfl ?_
      refine z_aload_n (i := 0) dL_law_253 rfl rfl rfl ?_
      refine z_iload_n (i := 3) dL_law_254 rfl rfl rfl ?_
      refine z_iconst (v := (3 : Int32)) dL_law_255 (by decide) rfl ?_
      refine z_iadd dL_law_256 rfl ?_
      obtain ⟨a20, h⟩ := h
      refine z_scr rfl a20 dL_law_257 rfl ?_
      refine z_callV k_X7_star m_L_23 (zRec_of (zisL64 hN)) rfl (zCall_N h) rfl (Nat.le_of_ble_eq_true rfl) dL_law_258 (zyL hN) rfl ?_
      rintro v s21 ⟨⟨r22, rfl, h⟩, hNs21⟩
      show zAt l g (d + 1) 0 200 M_L_law 261 [.ref 1, .ref 64, .ref 164, .int x3] [.int r22] s21 _
      refine z_aload_n (i := 2) dL_law_261 rfl rfl rfl ?_
      refine z_aload_n (i := 0) dL_law_262 rfl rfl rfl ?_
      refine z_iload_n (i := 3) dL_law_263 rfl rfl rfl ?_
      refine z_iconst (v := (1 : Int32)) dL_law_264 (by decide) rfl ?_
      refine z_iadd dL_law_265 rfl ?_
      obtain ⟨a23, h⟩ := h
      refine z_scr rfl a23 dL_law_266 rfl ?_
      refine z_aload_n (i := 0) dL_law_267 rfl rfl rfl ?_
      refine z_iload_n (i := 3) dL_law_268 rfl rfl rfl ?_
      refine z_iconst (v := (2 : Int32)) dL_law_269 (by decide) rfl ?_
      refine z_iadd dL_law_270 rfl ?_
      obtain ⟨a24, h⟩ := h
      refine z_scr rfl a24 dL_law_271 rfl ?_
      refine z_aload_n (i := 0) dL_law_272 rfl rfl rfl ?_
      refine z_iload_n (i := 3) dL_law_273 rfl rfl rfl ?_
      refine z_iconst (v := (3 : Int32)) dL_law_274 (by decide) rfl ?_
      refine z_iadd dL_law_275 rfl ?_
      obtain ⟨a25, h⟩ := h
      refine z_scr rfl a25 dL_law_276 rfl ?_
      refine z_callV k_X8_star m_L_26 (zRec_of (zisL164 hNs21)) rfl (zCall_N h) rfl (Nat.le_of_ble_eq_true rfl) dL_law_277 (zyL hNs21) rfl ?_
      rintro v s26 ⟨⟨r27, rfl, h⟩, hNs26⟩
      show zAt l g (d + 1) 0 200 M_L_law 280 [.ref 1, .ref 64, .ref 164, .int x3] [.int r27, .int r22] s26 _
      refine z_icmp_eq (pt := 1382) dL_law_280 (by decide) rfl (fun c => ?_) (fun c => ?_)
      · have h := zit h c
        refine z_iinc (v := x3 + (6 : Int32)) dL_law_1382 rfl rfl (by decide) (zokd rfl) rfl ?_
        show zAt l g (d + 1) 0 200 M_L_law 1385 [.ref 1, .ref 64, .ref 164, .int (x3 + (6 : Int32))] [] s26 _
        refine z_goto (pn := 18) dL_law_1385 (by decide) ?_
        exact h
      · have h := zif h c
        refine z_iconst (v := (0 : Int32)) dL_law_283 (by decide) rfl ?_
        exact z_ret (some (.int (zb false))) (Or.inr (Or.inl ⟨_, _, rfl, rfl, zb_nar _, dL_law_284⟩)) (fun _ _ => hNs26) ⟨_, rfl, h⟩
    have h := zif h c2
    by_cases c3 : ((g.2.2.2.2.2 x3.toNatClampNeg) &&& (31 : Int32)) = (3 : Int32)
    · have h := zit h c3
      refine z_tableIn (pt := 285) dL_law_33 (by rw [c3]; decide) (by rw [c3]; decide) (by rw [c3]; rfl) (by decide) ?_
      refine z_aload_n (i := 1) dL_law_285 rfl rfl rfl ?_
      refine z_aload_n (i := 0) dL_law_286 rfl rfl rfl ?_
      refine z_iload_n (i := 3) dL_law_287 rfl rfl rfl ?_
      refine z_iconst (v := (1 : Int32)) dL_law_288 (by decide) rfl ?_
      refine z_iadd dL_law_289 rfl ?_
      obtain ⟨a28, h⟩ := h
      refine z_scr rfl a28 dL_law_290 rfl ?_
      refine z_aload_n (i := 0) dL_law_291 rfl rfl rfl ?_
      refine z_iload_n (i := 3) dL_law_292 rfl rfl rfl ?_
      refine z_iconst (v := (2 : Int32)) dL_law_293 (by decide) rfl ?_
      refine z_iadd dL_law_294 rfl ?_
      obtain ⟨a29, h⟩ := h
      refine z_scr rfl a29 dL_law_295 rfl ?_
      refine z_aload_n (i := 0) dL_law_296 rfl rfl rfl ?_
      refine z_iload_n (i := 3) dL_law_297 rfl rfl rfl ?_
      refine z_iconst (v := (3 : Int32)) dL_law_298 (by decide) rfl ?_
      refine z_iadd dL_law_299 rfl ?_
      obtain ⟨a30, h⟩ := h
      refine z_scr rfl a30 dL_law_300 rfl ?_
      refine z_aload_n (i := 0) dL_law_301 rfl rfl rfl ?_
      refine z_iload_n (i := 3) dL_law_302 rfl rfl rfl ?_
      refine z_iconst (v := (4 : Int32)) dL_law_303 (by decide) rfl ?_
      refine z_iadd dL_law_304 rfl ?_
      obtain ⟨a31, h⟩ := h
      refine z_scr rfl a31 dL_law_305 rfl ?_
      refine z_aload_n (i := 0) dL_law_306 rfl rfl rfl ?_
      refine z_iload_n (i := 3) dL_law_307 rfl rfl rfl ?_
      refine z_iconst (v := (5 : Int32)) dL_law_308 (by decide) rfl ?_
      refine z_iadd dL_law_309 rfl ?_
      obtain ⟨a32, h⟩ := h
      refine z_scr rfl a32 dL_law_310 rfl ?_
      refine z_callV k_X7_flies m_L_27 (zRec_of (zisL64 hN)) rfl (zCall_N h) rfl (Nat.le_of_ble_eq_true rfl) dL_law_311 (zyL hN) rfl ?_
      rintro v s33 ⟨⟨r34, rfl, h⟩, hNs33⟩
      show zAt l g (d + 1) 0 200 M_L_law 314 [.ref 1, .ref 64, .ref 164, .int x3] [.int r34] s33 _
      refine z_aload_n (i := 2) dL_law_314 rfl rfl rfl ?_
      refine z_aload_n (i := 0) dL_law_315 rfl rfl rfl ?_
      refine z_iload_n (i := 3) dL_law_316 rfl rfl rfl ?_
      refine z_iconst (v := (1 : Int32)) dL_law_317 (by decide) rfl ?_
      refine z_iadd dL_law_318 rfl ?_
      obtain ⟨a35, h⟩ := h
      refine z_scr rfl a35 dL_law_319 rfl ?_
      refine z_aload_n (i := 0) dL_law_320 rfl rfl rfl ?_
      refine z_iload_n (i := 3) dL_law_321 rfl rfl rfl ?_
      refine z_iconst (v := (2 : Int32)) dL_law_322 (by decide) rfl ?_
      refine z_iadd dL_law_323 rfl ?_
      obtain ⟨a36, h⟩ := h
      refine z_scr rfl a36 dL_law_324 rfl ?_
      refine z_aload_n (i := 0) dL_law_325 rfl rfl rfl ?_
      refine z_iload_n (i := 3) dL_law_326 rfl rfl rfl ?_
      refine z_iconst (v := (3 : Int32)) dL_law_327 (by decide) rfl ?_
      refine z_iadd dL_law_328 rfl ?_
      obtain ⟨a37, h⟩ := h
      refine z_scr rfl a37 dL_law_329 rfl ?_
      refine z_aload_n (i := 0) dL_law_330 rfl rfl rfl ?_
      refine z_iload_n (i := 3) dL_law_331 rfl rfl rfl ?_
      refine z_iconst (v := (4 : Int32)) dL_law_332 (by decide) rfl ?_
      refine z_iadd dL_law_333 rfl ?_
      obtain ⟨a38, h⟩ := h
      refine z_scr rfl a38 dL_law_334 rfl ?_
      refine z_aload_n (i := 0) dL_law_335 rfl rfl rfl ?_
      refine z_iload_n (i := 3) dL_law_336 rfl rfl rfl ?_
      refine z_iconst (v := (5 : Int32)) dL_law_337 (by decide) rfl ?_
      refine z_iadd dL_law_338 rfl ?_
      obtain ⟨a39, h⟩ := h
      refine z_scr rfl a39 dL_law_339 rfl ?_
      refine z_callV k_X8_flies m_L_31 (zRec_of (zisL164 hNs33)) rfl (zCall_N h) rfl (Nat.le_of_ble_eq_true rfl) dL_law_340 (zyL hNs33) rfl ?_
      rintro v s40 ⟨⟨r41, rfl, h⟩, hNs40⟩
      show zAt l g (d + 1) 0 200 M_L_law 343 [.ref 1, .ref 64, .ref 164, .int x3] [.int r41, .int r34] s40 _
      refine z_icmp_eq (pt := 1382) dL_law_343 (by decide) rfl (fun c => ?_) (fun c => ?_)
      · have h := zit h c
        refine z_iinc (v := x3 + (6 : Int32)) dL_law_1382 rfl rfl (by decide) (zokd rfl) rfl ?_
        show zAt l g (d + 1) 0 200 M_L_law 1385 [.ref 1, .ref 64, .ref 164, .int (x3 + (6 : Int32))] [] s40 _
        refine z_goto (pn := 18) dL_law_1385 (by decide) ?_
        exact h
      · have h := zif h c
        refine z_iconst (v := (0 : Int32)) dL_law_346 (by decide) rfl ?_
        exact z_ret (some (.int (zb false))) (Or.inr (Or.inl ⟨_, _, rfl, rfl, zb_nar _, dL_law_347⟩)) (fun _ _ => hNs40) ⟨_, rfl, h⟩
    have h := zif h c3
    by_cases c4 : ((g.2.2.2.2.2 x3.toNatClampNeg) &&& (31 : Int32)) = (4 : Int32)
    · have h := zit h c4
      refine z_tableIn (pt := 348) dL_law_33 (by rw [c4]; decide) (by rw [c4]; decide) (by rw [c4]; rfl) (by decide) ?_
      refine z_aload_n (i := 1) dL_law_348 rfl rfl rfl ?_
      refine z_aload_n (i := 0) dL_law_349 rfl rfl rfl ?_
      refine z_iload_n (i := 3) dL_law_350 rfl rfl rfl ?_
      refine z_iconst (v := (1 : Int32)) dL_law_351 (by decide) rfl ?_
      refine z_iadd dL_law_352 rfl ?_
      obtain ⟨a42, h⟩ := h
      refine z_scr rfl a42 dL_law_353 rfl ?_
      refine z_aload_n (i := 0) dL_law_354 rfl rfl rfl ?_
      refine z_iload_n (i := 3) dL_law_355 rfl rfl rfl ?_
      refine z_iconst (v := (2 : Int32)) dL_law_356 (by decide) rfl ?_
      refine z_iadd dL_law_357 rfl ?_
      obtain ⟨a43, h⟩ := h
      refine z_scr rfl a43 dL_law_358 rfl ?_
      refine z_aload_n (i := 0) dL_law_359 rfl rfl rfl ?_
      refine z_iload_n (i := 3) dL_law_360 rfl rfl rfl ?_
      refine z_iconst (v := (3 : Int32)) dL_law_361 (by decide) rfl ?_
      refine z_iadd dL_law_362 rfl ?_
      obtain ⟨a44, h⟩ := h
      refine z_scr rfl a44 dL_law_363 rfl ?_
      refine z_aload_n (i := 0) dL_law_364 rfl rfl rfl ?_
      refine z_iload_n (i := 3) dL_law_365 rfl rfl rfl ?_
      refine z_iconst (v := (4 : Int32)) dL_law_366 (by decide) rfl ?_
      refine z_iadd dL_law_367 rfl ?_
      obtain ⟨a45, h⟩ := h
      refine z_scr rfl a45 dL_law_368 rfl ?_
      refine z_callV k_X7_flare m_L_32 (zRec_of (zisL64 hN)) rfl (zCall_N h) rfl (Nat.le_of_ble_eq_true rfl) dL_law_369 (zyL hN) rfl ?_
      rintro v s46 ⟨⟨r47, rfl, h⟩, hNs46⟩
      show zAt l g (d + 1) 0 200 M_L_law 372 [.ref 1, .ref 64, .ref 164, .int x3] [.int r47] s46 _
      refine z_aload_n (i := 2) dL_law_372 rfl rfl rfl ?_
      refine z_aload_n (i := 0) dL_law_373 rfl rfl rfl ?_
      refine z_iload_n (i := 3) dL_law_374 rfl rfl rfl ?_
      refine z_iconst (v := (1 : Int32)) dL_law_375 (by decide) rfl ?_
      refine z_iadd dL_law_376 rfl ?_
      obtain ⟨a48, h⟩ := h
      refine z_scr rfl a48 dL_law_377 rfl ?_
      refine z_aload_n (i := 0) dL_law_378 rfl rfl rfl ?_
      refine z_iload_n (i := 3) dL_law_379 rfl rfl rfl ?_
      refine z_iconst (v := (2 : Int32)) dL_law_380 (by decide) rfl ?_
      refine z_iadd dL_law_381 rfl ?_
      obtain ⟨a49, h⟩ := h
      refine z_scr rfl a49 dL_law_382 rfl ?_
      refine z_aload_n (i := 0) dL_law_383 rfl rfl rfl ?_
      refine z_iload_n (i := 3) dL_law_384 rfl rfl rfl ?_
      refine z_iconst (v := (3 : Int32)) dL_law_385 (by decide) rfl ?_
      refine z_iadd dL_law_386 rfl ?_
      obtain ⟨a50, h⟩ := h
      refine z_scr rfl a50 dL_law_387 rfl ?_
      refine z_aload_n (i := 0) dL_law_388 rfl rfl rfl ?_
      refine z_iload_n (i := 3) dL_law_389 rfl rfl rfl ?_
      refine z_iconst (v := (4 : Int32)) dL_law_390 (by decide) rfl ?_
      refine z_iadd dL_law_391 rfl ?_
      obtain ⟨a51, h⟩ := h
      refine z_scr rfl a51 dL_law_392 rfl ?_
      refine z_callV k_X8_flare m_L_36 (zRec_of (zisL164 hNs46)) rfl (zCall_N h) rfl (Nat.le_of_ble_eq_true rfl) dL_law_393 (zyL hNs46) rfl ?_
      rintro v s52 ⟨⟨r53, rfl, h⟩, hNs52⟩
      show zAt l g (d + 1) 0 200 M_L_law 396 [.ref 1, .ref 64, .ref 164, .int x3] [.int r53, .int r47] s52 _
      refine z_icmp_eq (pt := 1382) dL_law_396 (by decide) rfl (fun c => ?_) (fun c => ?_)
      · have h := zit h c
        refine z_iinc (v := x3 + (6 : Int32)) dL_law_1382 rfl rfl (by decide) (zokd rfl) rfl ?_
        show zAt l g (d + 1) 0 200 M_L_law 1385 [.ref 1, .ref 64, .ref 164, .int (x3 + (6 : Int32))] [] s52 _
        refine z_goto (pn := 18) dL_law_1385 (by decide) ?_
        exact h
      · have h := zif h c
        refine z_iconst (v := (0 : Int32)) dL_law_399 (by decide) rfl ?_
        exact z_ret (some (.int (zb false))) (Or.inr (Or.inl ⟨_, _, rfl, rfl, zb_nar _, dL_law_400⟩)) (fun _ _ => hNs52) ⟨_, rfl, h⟩
    have h := zif h c4
    by_cases c5 : ((g.2.2.2.2.2 x3.toNatClampNeg) &&& (31 : Int32)) = (5 : Int32)
    · have h := zit h c5
      refine z_tableIn (pt := 401) dL_law_33 (by rw [c5]; decide) (by rw [c5]; decide) (by rw [c5]; rfl) (by decide) ?_
      refine z_aload_n (i := 1) dL_law_401 rfl rfl rfl ?_
      refine z_aload_n (i := 0) dL_law_402 rfl rfl rfl ?_
      refine z_iload_n (i := 3) dL_law_403 rfl rfl rfl ?_
      refine z_iconst (v := (1 : Int32)) dL_law_404 (by decide) rfl ?_
      refine z_iadd dL_law_405 rfl ?_
      obtain ⟨a54, h⟩ := h
      refine z_scr rfl a54 dL_law_406 rfl ?_
      refine z_aload_n (i := 0) dL_law_407 rfl rfl rfl ?_
      refine z_iload_n (i := 3) dL_law_408 rfl rfl rfl ?_
      refine z_iconst (v := (2 : Int32)) dL_law_409 (by decide) rfl ?_
      refine z_iadd dL_law_410 rfl ?_
      obtain ⟨a55, h⟩ := h
      refine z_scr rfl a55 dL_law_411 rfl ?_
      refine z_aload_n (i := 0) dL_law_412 rfl rfl rfl ?_
      refine z_iload_n (i := 3) dL_law_413 rfl rfl rfl ?_
      refine z_iconst (v := (3 : Int32)) dL_law_414 (by decide) rfl ?_
      refine z_iadd dL_law_415 rfl ?_
      obtain ⟨a56, h⟩ := h
      refine z_scr rfl a56 dL_law_416 rfl ?_
      refine z_aload_n (i := 0) dL_law_417 rfl rfl rfl ?_
      refine z_iload_n (i := 3) dL_law_418 rfl rfl rfl ?_
      refine z_iconst (v := (4 : Int32)) dL_law_419 (by decide) rfl ?_
      refine z_iadd dL_law_420 rfl ?_
      obtain ⟨a57, h⟩ := h
      refine z_scr rfl a57 dL_law_421 rfl ?_
      refine z_callV k_X7_lamp m_L_37 (zRec_of (zisL64 hN)) rfl (zCall_N h) rfl (Nat.le_of_ble_eq_true rfl) dL_law_422 (zyL hN) rfl ?_
      rintro v s58 ⟨⟨r59, rfl, h⟩, hNs58⟩
      show zAt l g (d + 1) 0 200 M_L_law 425 [.ref 1, .ref 64, .ref 164, .int x3] [.int r59] s58 _
      refine z_aload_n (i := 2) dL_law_425 rfl rfl rfl ?_
      refine z_aload_n (i := 0) dL_law_426 rfl rfl rfl ?_
      refine z_iload_n (i := 3) dL_law_427 rfl rfl rfl ?_
      refine z_iconst (v := (1 : Int32)) dL_law_428 (by decide) rfl ?_
      refine z_iadd dL_law_429 rfl ?_
      obtain ⟨a60, h⟩ := h
      refine z_scr rfl a60 dL_law_430 rfl ?_
      refine z_aload_n (i := 0) dL_law_431 rfl rfl rfl ?_
      refine z_iload_n (i := 3) dL_law_432 rfl rfl rfl ?_
      refine z_iconst (v := (2 : Int32)) dL_law_433 (by decide) rfl ?_
      refine z_iadd dL_law_434 rfl ?_
      obtain ⟨a61, h⟩ := h
      refine z_scr rfl a61 dL_law_435 rfl ?_
      refine z_aload_n (i := 0) dL_law_436 rfl rfl rfl ?_
      refine z_iload_n (i := 3) dL_law_437 rfl rfl rfl ?_
      refine z_iconst (v := (3 : Int32)) dL_law_438 (by decide) rfl ?_
      refine z_iadd dL_law_439 rfl ?_
      obtain ⟨a62, h⟩ := h
      refine z_scr rfl a62 dL_law_440 rfl ?_
      refine z_aload_n (i := 0) dL_law_441 rfl rfl rfl ?_
      refine z_iload_n (i := 3) dL_law_442 rfl rfl rfl ?_
      refine z_iconst (v := (4 : Int32)) dL_law_443 (by decide) rfl ?_
      refine z_iadd dL_law_444 rfl ?_
      obtain ⟨a63, h⟩ := h
      refine z_scr rfl a63 dL_law_445 rfl ?_
      refine z_callV k_X8_lamp m_L_40 (zRec_of (zisL164 hNs58)) rfl (zCall_N h) rfl (Nat.le_of_ble_eq_true rfl) dL_law_446 (zyL hNs58) rfl ?_
      rintro v s64 ⟨⟨r65, rfl, h⟩, hNs64⟩
      show zAt l g (d + 1) 0 200 M_L_law 449 [.ref 1, .ref 64, .ref 164, .int x3] [.int r65, .int r59] s64 _
      refine z_icmp_eq (pt := 1382) dL_law_449 (by decide) rfl (fun c => ?_) (fun c => ?_)
      · have h := zit h c
        refine z_iinc (v := x3 + (6 : Int32)) dL_law_1382 rfl rfl (by decide) (zokd rfl) rfl ?_
        show zAt l g (d + 1) 0 200 M_L_law 1385 [.ref 1, .ref 64, .ref 164, .int (x3 + (6 : Int32))] [] s64 _
        refine z_goto (pn := 18) dL_law_1385 (by decide) ?_
        exact h
      · have h := zif h c
        refine z_iconst (v := (0 : Int32)) dL_law_452 (by decide) rfl ?_
        exact z_ret (some (.int (zb false))) (Or.inr (Or.inl ⟨_, _, rfl, rfl, zb_nar _, dL_law_453⟩)) (fun _ _ => hNs64) ⟨_, rfl, h⟩
    have h := zif h c5
    by_cases c6 : ((g.2.2.2.2.2 x3.toNatClampNeg) &&& (31 : Int32)) = (6 : Int32)
    · have h := zit h c6
      refine z_tableIn (pt := 454) dL_law_33 (by rw [c6]; decide) (by rw [c6]; decide) (by rw [c6]; rfl) (by decide) ?_
      refine z_aload_n (i := 1) dL_law_454 rfl rfl rfl ?_
      refine z_aload_n (i := 0) dL_law_455 rfl rfl rfl ?_
      refine z_iload_n (i := 3) dL_law_456 rfl rfl rfl ?_
      refine z_iconst (v := (1 : Int32)) dL_law_457 (by decide) rfl ?_
      refine z_iadd dL_law_458 rfl ?_
      obtain ⟨a66, h⟩ := h
      refine z_scr rfl a66 dL_law_459 rfl ?_
      refine z_callV k_X7_ground m_L_41 (zRec_of (zisL64 hN)) rfl (zCall_N h) rfl (Nat.le_of_ble_eq_true rfl) dL_law_460 (zyL hN) rfl ?_
      rintro v s67 ⟨⟨r68, rfl, h⟩, hNs67⟩
      show zAt l g (d + 1) 0 200 M_L_law 463 [.ref 1, .ref 64, .ref 164, .int x3] [.int r68] s67 _
      refine z_aload_n (i := 2) dL_law_463 rfl rfl rfl ?_
      refine z_aload_n (i := 0) dL_law_464 rfl rfl rfl ?_
      refine z_iload_n (i := 3) dL_law_465 rfl rfl rfl ?_
      refine z_iconst (v := (1 : Int32)) dL_law_466 (by decide) rfl ?_
      refine z_iadd dL_law_467 rfl ?_
      obtain ⟨a69, h⟩ := h
      refine z_scr rfl a69 dL_law_468 rfl ?_
      refine z_callV k_X8_ground m_L_44 (zRec_of (zisL164 hNs67)) rfl (zCall_N h) rfl (Nat.le_of_ble_eq_true rfl) dL_law_469 (zyL hNs67) rfl ?_
      rintro v s70 ⟨⟨r71, rfl, h⟩, hNs70⟩
      show zAt l g (d + 1) 0 200 M_L_law 472 [.ref 1, .ref 64, .ref 164, .int x3] [.int r71, .int r68] s70 _
      refine z_icmp_eq (pt := 1382) dL_law_472 (by decide) rfl (fun c => ?_) (fun c => ?_)
      · have h := zit h c
        refine z_iinc (v := x3 + (6 : Int32)) dL_law_1382 rfl rfl (by decide) (zokd rfl) rfl ?_
        show zAt l g (d + 1) 0 200 M_L_law 1385 [.ref 1, .ref 64, .ref 164, .int (x3 + (6 : Int32))] [] s70 _
        refine z_goto (pn := 18) dL_law_1385 (by decide) ?_
        exact h
      · have h := zif h c
        refine z_iconst (v := (0 : Int32)) dL_law_475 (by decide) rfl ?_
        exact z_ret (some (.int (zb false))) (Or.inr (Or.inl ⟨_, _, rfl, rfl, zb_nar _, dL_law_476⟩)) (fun _ _ => hNs70) ⟨_, rfl, h⟩
    have h := zif h c6
    by_cases c7 : ((g.2.2.2.2.2 x3.toNatClampNeg) &&& (31 : Int32)) = (7 : Int32)
    · have h := zit h c7
      refine z_tableIn (pt := 477) dL_law_33 (by rw [c7]; decide) (by rw [c7]; decide) (by rw [c7]; rfl) (by decide) ?_
      refine z_aload_n (i := 1) dL_law_477 rfl rfl rfl ?_
      refine z_aload_n (i := 0) dL_law_478 rfl rfl rfl ?_
      refine z_iload_n (i := 3) dL_law_479 rfl rfl rfl ?_
      refine z_iconst (v := (1 : Int32)) dL_law_480 (by decide) rfl ?_
      refine z_iadd dL_law_481 rfl ?_
      obtain ⟨a72, h⟩ := h
      refine z_scr rfl a72 dL_law_482 rfl ?_
      refine z_aload_n (i := 0) dL_law_483 rfl rfl rfl ?_
      refine z_iload_n (i := 3) dL_law_484 rfl rfl rfl ?_
      refine z_iconst (v := (2 : Int32)) dL_law_485 (by decide) rfl ?_
      refine z_iadd dL_law_486 rfl ?_
      obtain ⟨a73, h⟩ := h
      refine z_scr rfl a73 dL_law_487 rfl ?_
      refine z_aload_n (i := 0) dL_law_488 rfl rfl rfl ?_
      refine z_iload_n (i := 3) dL_law_489 rfl rfl rfl ?_
      refine z_iconst (v := (3 : Int32)) dL_law_490 (by decide) rfl ?_
      refine z_iadd dL_law_491 rfl ?_
      obtain ⟨a74, h⟩ := h
      refine z_scr rfl a74 dL_law_492 rfl ?_
      refine z_callV k_X7_at m_L_45 (zRec_of (zisL64 hN)) rfl (zCall_N h) rfl (Nat.le_of_ble_eq_true rfl) dL_law_493 (zyL hN) rfl ?_
      rintro v s75 ⟨⟨r76, rfl, h⟩, hNs75⟩
      show zAt l g (d + 1) 0 200 M_L_law 496 [.ref 1, .ref 64, .ref 164, .int x3] [.int r76] s75 _
      refine z_aload_n (i := 2) dL_law_496 rfl rfl rfl ?_
      refine z_aload_n (i := 0) dL_law_497 rfl rfl rfl ?_
      refine z_iload_n (i := 3) dL_law_498 rfl rfl rfl ?_
      refine z_iconst (v := (1 : Int32)) dL_law_499 (by decide) rfl ?_
      refine z_iadd dL_law_500 rfl ?_
      obtain ⟨a77, h⟩ := h
      refine z_scr rfl a77 dL_law_501 rfl ?_
      refine z_aload_n (i := 0) dL_law_502 rfl rfl rfl ?_
      refine z_iload_n (i := 3) dL_law_503 rfl rfl rfl ?_
      refine z_iconst (v := (2 : Int32)) dL_law_504 (by decide) rfl ?_
      refine z_iadd dL_law_505 rfl ?_
      obtain ⟨a78, h⟩ := h
      refine z_scr rfl a78 dL_law_506 rfl ?_
      refine z_aload_n (i := 0) dL_law_507 rfl rfl rfl ?_
      refine z_iload_n (i := 3) dL_law_508 rfl rfl rfl ?_
      refine z_iconst (v := (3 : Int32)) dL_law_509 (by decide) rfl ?_
      refine z_iadd dL_law_510 rfl ?_
      obtain ⟨a79, h⟩ := h
      refine z_scr rfl a79 dL_law_511 rfl ?_
      refine z_callV k_X8_at m_L_48 (zRec_of (zisL164 hNs75)) rfl (zCall_N h) rfl (Nat.le_of_ble_eq_true rfl) dL_law_512 (zyL hNs75) rfl ?_
      rintro v s80 ⟨⟨r81, rfl, h⟩, hNs80⟩
      show zAt l g (d + 1) 0 200 M_L_law 515 [.ref 1, .ref 64, .ref 164, .int x3] [.int r81, .int r76] s80 _
      refine z_icmp_eq (pt := 1382) dL_law_515 (by decide) rfl (fun c => ?_) (fun c => ?_)
      · have h := zit h c
        refine z_iinc (v := x3 + (6 : Int32)) dL_law_1382 rfl rfl (by decide) (zokd rfl) rfl ?_
        show zAt l g (d + 1) 0 200 M_L_law 1385 [.ref 1, .ref 64, .ref 164, .int (x3 + (6 : Int32))] [] s80 _
        refine z_goto (pn := 18) dL_law_1385 (by decide) ?_
        exact h
      · have h := zif h c
        refine z_iconst (v := (0 : Int32)) dL_law_518 (by decide) rfl ?_
        exact z_ret (some (.int (zb false))) (Or.inr (Or.inl ⟨_, _, rfl, rfl, zb_nar _, dL_law_519⟩)) (fun _ _ => hNs80) ⟨_, rfl, h⟩
    have h := zif h c7
    by_cases c8 : ((g.2.2.2.2.2 x3.toNatClampNeg) &&& (31 : Int32)) = (8 : Int32)
    · have h := zit h c8
      refine z_tableIn (pt := 520) dL_law_33 (by rw [c8]; decide) (by rw [c8]; decide) (by rw [c8]; rfl) (by decide) ?_
      refine z_aload_n (i := 1) dL_law_520 rfl rfl rfl ?_
      refine z_aload_n (i := 0) dL_law_521 rfl rfl rfl ?_
      refine z_iload_n (i := 3) dL_law_522 rfl rfl rfl ?_
      refine z_iconst (v := (1 : Int32)) dL_law_523 (by decide) rfl ?_
      refine z_iadd dL_law_524 rfl ?_
      obtain ⟨a82, h⟩ := h
      refine z_scr rfl a82 dL_law_525 rfl ?_
      refine z_aload_n (i := 0) dL_law_526 rfl rfl rfl ?_
      refine z_iload_n (i := 3) dL_law_527 rfl rfl rfl ?_
      refine z_iconst (v := (2 : Int32)) dL_law_528 (by decide) rfl ?_
      refine z_iadd dL_law_529 rfl ?_
      obtain ⟨a83, h⟩ := h
      refine z_scr rfl a83 dL_law_530 rfl ?_
      refine z_aload_n (i := 0) dL_law_531 rfl rfl rfl ?_
      refine z_iload_n (i := 3) dL_law_532 rfl rfl rfl ?_
      refine z_iconst (v := (3 : Int32)) dL_law_533 (by decide) rfl ?_
      refine z_iadd dL_law_534 rfl ?_
      obtain ⟨a84, h⟩ := h
      refine z_scr rfl a84 dL_law_535 rfl ?_
      refine z_aload_n (i := 0) dL_law_536 rfl rfl rfl ?_
      refine z_iload_n (i := 3) dL_law_537 rfl rfl rfl ?_
      refine z_iconst (v := (4 : Int32)) dL_law_538 (by decide) rfl ?_
      refine z_iadd dL_law_539 rfl ?_
      obtain ⟨a85, h⟩ := h
      refine z_scr rfl a85 dL_law_540 rfl ?_
      refine z_callV k_X7_seen m_L_49 (zRec_of (zisL64 hN)) rfl (zCall_N h) rfl (Nat.le_of_ble_eq_true rfl) dL_law_541 (zyL hN) rfl ?_
      rintro v s86 ⟨⟨r87, rfl, h⟩, hNs86⟩
      show zAt l g (d + 1) 0 200 M_L_law 544 [.ref 1, .ref 64, .ref 164, .int x3] [.int r87] s86 _
      refine z_aload_n (i := 2) dL_law_544 rfl rfl rfl ?_
      refine z_aload_n (i := 0) dL_law_545 rfl rfl rfl ?_
      refine z_iload_n (i := 3) dL_law_546 rfl rfl rfl ?_
      refine z_iconst (v := (1 : Int32)) dL_law_547 (by decide) rfl ?_
      refine z_iadd dL_law_548 rfl ?_
      obtain ⟨a88, h⟩ := h
      refine z_scr rfl a88 dL_law_549 rfl ?_
      refine z_aload_n (i := 0) dL_law_550 rfl rfl rfl ?_
      refine z_iload_n (i := 3) dL_law_551 rfl rfl rfl ?_
      refine z_iconst (v := (2 : Int32)) dL_law_552 (by decide) rfl ?_
      refine z_iadd dL_law_553 rfl ?_
      obtain ⟨a89, h⟩ := h
      refine z_scr rfl a89 dL_law_554 rfl ?_
      refine z_aload_n (i := 0) dL_law_555 rfl rfl rfl ?_
      refine z_iload_n (i := 3) dL_law_556 rfl rfl rfl ?_
      refine z_iconst (v := (3 : Int32)) dL_law_557 (by decide) rfl ?_
      refine z_iadd dL_law_558 rfl ?_
      obtain ⟨a90, h⟩ := h
      refine z_scr rfl a90 dL_law_559 rfl ?_
      refine z_aload_n (i := 0) dL_law_560 rfl rfl rfl ?_
      refine z_iload_n (i := 3) dL_law_561 rfl rfl rfl ?_
      refine z_iconst (v := (4 : Int32)) dL_law_562 (by decide) rfl ?_
      refine z_iadd dL_law_563 rfl ?_
      obtain ⟨a91, h⟩ := h
      refine z_scr rfl a91 dL_law_564 rfl ?_
      refine z_callV k_X8_seen m_L_52 (zRec_of (zisL164 hNs86)) rfl (zCall_N h) rfl (Nat.le_of_ble_eq_true rfl) dL_law_565 (zyL hNs86) rfl ?_
      rintro v s92 ⟨⟨r93, rfl, h⟩, hNs92⟩
      show zAt l g (d + 1) 0 200 M_L_law 568 [.ref 1, .ref 64, .ref 164, .int x3] [.int r93, .int r87] s92 _
      refine z_icmp_eq (pt := 1382) dL_law_568 (by decide) rfl (fun c => ?_) (fun c => ?_)
      · have h := zit h c
        refine z_iinc (v := x3 + (6 : Int32)) dL_law_1382 rfl rfl (by decide) (zokd rfl) rfl ?_
        show zAt l g (d + 1) 0 200 M_L_law 1385 [.ref 1, .ref 64, .ref 164, .int (x3 + (6 : Int32))] [] s92 _
        refine z_goto (pn := 18) dL_law_1385 (by decide) ?_
        exact h
      · have h := zif h c
        refine z_iconst (v := (0 : Int32)) dL_law_571 (by decide) rfl ?_
        exact z_ret (some (.int (zb false))) (Or.inr (Or.inl ⟨_, _, rfl, rfl, zb_nar _, dL_law_572⟩)) (fun _ _ => hNs92) ⟨_, rfl, h⟩
    have h := zif h c8
    by_cases c9 : ((g.2.2.2.2.2 x3.toNatClampNeg) &&& (31 : Int32)) = (9 : Int32)
    · have h := zit h c9
      refine z_tableIn (pt := 573) dL_law_33 (by rw [c9]; decide) (by rw [c9]; decide) (by rw [c9]; rfl) (by decide) ?_
      refine z_aload_n (i := 1) dL_law_573 rfl rfl rfl ?_
      refine z_aload_n (i := 0) dL_law_574 rfl rfl rfl ?_
      refine z_iload_n (i := 3) dL_law_575 rfl rfl rfl ?_
      refine z_iconst (v := (1 : Int32)) dL_law_576 (by decide) rfl ?_
      refine z_iadd dL_law_577 rfl ?_
      obtain ⟨a94, h⟩ := h
      refine z_scr rfl a94 dL_law_578 rfl ?_
      refine z_aload_n (i := 0) dL_law_579 rfl rfl rfl ?_
      refine z_iload_n (i := 3) dL_law_580 rfl rfl rfl ?_
      refine z_iconst (v := (2 : Int32)) dL_law_581 (by decide) rfl ?_
      refine z_iadd dL_law_582 rfl ?_
      obtain ⟨a95, h⟩ := h
      refine z_scr rfl a95 dL_law_583 rfl ?_
      refine z_aload_n (i := 0) dL_law_584 rfl rfl rfl ?_
      refine z_iload_n (i := 3) dL_law_585 rfl rfl rfl ?_
      refine z_iconst (v := (3 : Int32)) dL_law_586 (by decide) rfl ?_
      refine z_iadd dL_law_587 rfl ?_
      obtain ⟨a96, h⟩ := h
      refine z_scr rfl a96 dL_law_588 rfl ?_
      refine z_aload_n (i := 0) dL_law_589 rfl rfl rfl ?_
      refine z_iload_n (i := 3) dL_law_590 rfl rfl rfl ?_
      refine z_iconst (v := (4 : Int32)) dL_law_591 (by decide) rfl ?_
      refine z_iadd dL_law_592 rfl ?_
      obtain ⟨a97, h⟩ := h
      refine z_scr rfl a97 dL_law_593 rfl ?_
      refine z_aload_n (i := 0) dL_law_594 rfl rfl rfl ?_
      refine z_iload_n (i := 3) dL_law_595 rfl rfl rfl ?_
      refine z_iconst (v := (5 : Int32)) dL_law_596 (by decide) rfl ?_
      refine z_iadd dL_law_597 rfl ?_
      obtain ⟨a98, h⟩ := h
      refine z_scr rfl a98 dL_law_598 rfl ?_
      refine z_callV k_X7_tell m_L_53 (zRec_of (zisL64 hN)) rfl (zCall_N h) rfl (Nat.le_of_ble_eq_true rfl) dL_law_599 (zyL hN) rfl ?_
      rintro v s99 ⟨⟨r100, rfl, h⟩, hNs99⟩
      show zAt l g (d + 1) 0 200 M_L_law 602 [.ref 1, .ref 64, .ref 164, .int x3] [.int r100] s99 _
      refine z_aload_n (i := 2) dL_law_602 rfl rfl rfl ?_
      refine z_aload_n (i := 0) dL_law_603 rfl rfl rfl ?_
      refine z_iload_n (i := 3) dL_law_604 rfl rfl rfl ?_
      refine z_iconst (v := (1 : Int32)) dL_law_605 (by decide) rfl ?_
      refine z_iadd dL_law_606 rfl ?_
      obtain ⟨a101, h⟩ := h
      refine z_scr rfl a101 dL_law_607 rfl ?_
      refine z_aload_n (i := 0) dL_law_608 rfl rfl rfl ?_
      refine z_iload_n (i := 3) dL_law_609 rfl rfl rfl ?_
      refine z_iconst (v := (2 : Int32)) dL_law_610 (by decide) rfl ?_
      refine z_iadd dL_law_611 rfl ?_
      obtain ⟨a102, h⟩ := h
      refine z_scr rfl a102 dL_law_612 rfl ?_
      refine z_aload_n (i := 0) dL_law_613 rfl rfl rfl ?_
      refine z_iload_n (i := 3) dL_law_614 rfl rfl rfl ?_
      refine z_iconst (v := (3 : Int32)) dL_law_615 (by decide) rfl ?_
      refine z_iadd dL_law_616 rfl ?_
      obtain ⟨a103, h⟩ := h
      refine z_scr rfl a103 dL_law_617 rfl ?_
      refine z_aload_n (i := 0) dL_law_618 rfl rfl rfl ?_
      refine z_iload_n (i := 3) dL_law_619 rfl rfl rfl ?_
      refine z_iconst (v := (4 : Int32)) dL_law_620 (by decide) rfl ?_
      refine z_iadd dL_law_621 rfl ?_
      obtain ⟨a104, h⟩ := h
      refine z_scr rfl a104 dL_law_622 rfl ?_
      refine z_aload_n (i := 0) dL_law_623 rfl rfl rfl ?_
      refine z_iload_n (i := 3) dL_law_624 rfl rfl rfl ?_
      refine z_iconst (v := (5 : Int32)) dL_law_625 (by decide) rfl ?_
      refine z_iadd dL_law_626 rfl ?_
      obtain ⟨a105, h⟩ := h
      refine z_scr rfl a105 dL_law_627 rfl ?_
      refine z_callV k_X8_tell m_L_56 (zRec_of (zisL164 hNs99)) rfl (zCall_N h) rfl (Nat.le_of_ble_eq_true rfl) dL_law_628 (zyL hNs99) rfl ?_
      rintro v s106 ⟨⟨r107, rfl, h⟩, hNs106⟩
      show zAt l g (d + 1) 0 200 M_L_law 631 [.ref 1, .ref 64, .ref 164, .int x3] [.int r107, .int r100] s106 _
      refine z_icmp_eq (pt := 1382) dL_law_631 (by decide) rfl (fun c => ?_) (fun c => ?_)
      · have h := zit h c
        refine z_iinc (v := x3 + (6 : Int32)) dL_law_1382 rfl rfl (by decide) (zokd rfl) rfl ?_
        show zAt l g (d + 1) 0 200 M_L_law 1385 [.ref 1, .ref 64, .ref 164, .int (x3 + (6 : Int32))] [] s106 _
        refine z_goto (pn := 18) dL_law_1385 (by decide) ?_
        exact h
      · have h := zif h c
        refine z_iconst (v := (0 : Int32)) dL_law_634 (by decide) rfl ?_
        exact z_ret (some (.int (zb false))) (Or.inr (Or.inl ⟨_, _, rfl, rfl, zb_nar _, dL_law_635⟩)) (fun _ _ => hNs106) ⟨_, rfl, h⟩
    have h := zif h c9
    by_cases c10 : ((g.2.2.2.2.2 x3.toNatClampNeg) &&& (31 : Int32)) = (10 : Int32)
    · have h := zit h c10
      refine z_tableIn (pt := 636) dL_law_33 (by rw [c10]; decide) (by rw [c10]; decide) (by rw [c10]; rfl) (by decide) ?_
      refine z_aload_n (i := 1) dL_law_636 rfl rfl rfl ?_
      refine z_callV k_X7_undo m_L_57 (zRec_of (zisL64 hN)) rfl (zCall_N h) rfl (Nat.le_of_ble_eq_true rfl) dL_law_637 (zyL hN) rfl ?_
      rintro v s108 ⟨⟨r109, rfl, h⟩, hNs108⟩
      show zAt l g (d + 1) 0 200 M_L_law 640 [.ref 1, .ref 64, .ref 164, .int x3] [.int r109] s108 _
      refine z_aload_n (i := 2) dL_law_640 rfl rfl rfl ?_
      refine z_callV k_X8_undo m_L_61 (zRec_of (zisL164 hNs108)) rfl (zCall_N h) rfl (Nat.le_of_ble_eq_true rfl) dL_law_641 (zyL hNs108) rfl ?_
      rintro v s110 ⟨⟨r111, rfl, h⟩, hNs110⟩
      show zAt l g (d + 1) 0 200 M_L_law 644 [.ref 1, .ref 64, .ref 164, .int x3] [.int r111, .int r109] s110 _
      refine z_icmp_eq (pt := 1382) dL_law_644 (by decide) rfl (fun c => ?_) (fun c => ?_)
      · have h := zit h c
        refine z_iinc (v := x3 + (6 : Int32)) dL_law_1382 rfl rfl (by decide) (zokd rfl) rfl ?_
        show zAt l g (d + 1) 0 200 M_L_law 1385 [.ref 1, .ref 64, .ref 164, .int (x3 + (6 : Int32))] [] s110 _
        refine z_goto (pn := 18) dL_law_1385 (by decide) ?_
        exact h
      · have h := zif h c
        refine z_iconst (v := (0 : Int32)) dL_law_647 (by decide) rfl ?_
        exact z_ret (some (.int (zb false))) (Or.inr (Or.inl ⟨_, _, rfl, rfl, zb_nar _, dL_law_648⟩)) (fun _ _ => hNs110) ⟨_, rfl, h⟩
    have h := zif h c10
    by_cases c11 : ((g.2.2.2.2.2 x3.toNatClampNeg) &&& (31 : Int32)) = (11 : Int32)
    · have h := zit h c11
      refine z_tableIn (pt := 649) dL_law_33 (by rw [c11]; decide) (by rw [c11]; decide) (by rw [c11]; rfl) (by decide) ?_
      refine z_aload_n (i := 1) dL_law_649 rfl rfl rfl ?_
      refine z_aload_n (i := 0) dL_law_650 rfl rfl rfl ?_
      refine z_iload_n (i := 3) dL_law_651 rfl rfl rfl ?_
      refine z_iconst (v := (1 : Int32)) dL_law_652 (by decide) rfl ?_
      refine z_iadd dL_law_653 rfl ?_
      obtain ⟨a112, h⟩ := h
      refine z_scr rfl a112 dL_law_654 rfl ?_
      refine z_aload_n (i := 0) dL_law_655 rfl rfl rfl ?_
      refine z_iload_n (i := 3) dL_law_656 rfl rfl rfl ?_
      refine z_iconst (v := (2 : Int32)) dL_law_657 (by decide) rfl ?_
      refine z_iadd dL_law_658 rfl ?_
      obtain ⟨a113, h⟩ := h
      refine z_scr rfl a113 dL_law_659 rfl ?_
      refine z_callV k_X7_off m_L_62 (zRec_of (zisL64 hN)) rfl (zCall_N h) rfl (Nat.le_of_ble_eq_true rfl) dL_law_660 (zyL hN) rfl ?_
      rintro v s114 ⟨⟨b115, rfl, h⟩, hNs114⟩
      show zAt l g (d + 1) 0 200 M_L_law 663 [.ref 1, .ref 64, .ref 164, .int x3] [.int (zb b115)] s114 _
      refine z_aload_n (i := 2) dL_law_663 rfl rfl rfl ?_
      refine z_aload_n (i := 0) dL_law_664 rfl rfl rfl ?_
      refine z_iload_n (i := 3) dL_law_665 rfl rfl rfl ?_
      refine z_iconst (v := (1 : Int32)) dL_law_666 (by decide) rfl ?_
      refine z_iadd dL_law_667 rfl ?_
      obtain ⟨a116, h⟩ := h
      refine z_scr rfl a116 dL_law_668 rfl ?_
      refine z_aload_n (i := 0) dL_law_669 rfl rfl rfl ?_
      refine z_iload_n (i := 3) dL_law_670 rfl rfl rfl ?_
      refine z_iconst (v := (2 : Int32)) dL_law_671 (by decide) rfl ?_
      refine z_iadd dL_law_672 rfl ?_
      obtain ⟨a117, h⟩ := h
      refine z_scr rfl a117 dL_law_673 rfl ?_
      refine z_callV k_X8_off m_L_66 (zRec_of (zisL164 hNs114)) rfl (zCall_N h) rfl (Nat.le_of_ble_eq_true rfl) dL_law_674 (zyL hNs114) rfl ?_
      rintro v s118 ⟨⟨b119, rfl, h⟩, hNs118⟩
      show zAt l g (d + 1) 0 200 M_L_law 677 [.ref 1, .ref 64, .ref 164, .int x3] [.int (zb b119), .int (zb b115)] s118 _
      refine z_icmp_eq (pt := 1382) dL_law_677 (by decide) rfl (fun c => ?_) (fun c => ?_)
      · have h := zit h c
        refine z_iinc (v := x3 + (6 : Int32)) dL_law_1382 rfl rfl (by decide) (zokd rfl) rfl ?_
        show zAt l g (d + 1) 0 200 M_L_law 1385 [.ref 1, .ref 64, .ref 164, .int (x3 + (6 : Int32))] [] s118 _
        refine z_goto (pn := 18) dL_law_1385 (by decide) ?_
        exact h
      · have h := zif h c
        refine z_iconst (v := (0 : Int32)) dL_law_680 (by decide) rfl ?_
        exact z_ret (some (.int (zb false))) (Or.inr (Or.inl ⟨_, _, rfl, rfl, zb_nar _, dL_law_681⟩)) (fun _ _ => hNs118) ⟨_, rfl, h⟩
    have h := zif h c11
    by_cases c12 : ((g.2.2.2.2.2 x3.toNatClampNeg) &&& (31 : Int32)) = (12 : Int32)
    · have h := zit h c12
      refine z_tableIn (pt := 682) dL_law_33 (by rw [c12]; decide) (by rw [c12]; decide) (by rw [c12]; rfl) (by decide) ?_
      refine z_aload_n (i := 1) dL_law_682 rfl rfl rfl ?_
      refine z_aload_n (i := 0) dL_law_683 rfl rfl rfl ?_
      refine z_iload_n (i := 3) dL_law_684 rfl rfl rfl ?_
      refine z_iconst (v := (1 : Int32)) dL_law_685 (by decide) rfl ?_
      refine z_iadd dL_law_686 rfl ?_
      obtain ⟨a120, h⟩ := h
      refine z_scr rfl a120 dL_law_687 rfl ?_
      refine z_aload_n (i := 0) dL_law_688 rfl rfl rfl ?_
      refine z_iload_n (i := 3) dL_law_689 rfl rfl rfl ?_
      refine z_iconst (v := (2 : Int32)) dL_law_690 (by decide) rfl ?_
      refine z_iadd dL_law_691 rfl ?_
      obtain ⟨a121, h⟩ := h
      refine z_scr rfl a121 dL_law_692 rfl ?_
      refine z_callV k_X7_telling m_L_67 (zRec_of (zisL64 hN)) rfl (zCall_N h) rfl (Nat.le_of_ble_eq_true rfl) dL_law_693 (zyL hN) rfl ?_
      rintro v s122 ⟨⟨r123, rfl, h⟩, hNs122⟩
      show zAt l g (d + 1) 0 200 M_L_law 696 [.ref 1, .ref 64, .ref 164, .int x3] [.int r123] s122 _
      refine z_aload_n (i := 2) dL_law_696 rfl rfl rfl ?_
      refine z_aload_n (i := 0) dL_law_697 rfl rfl rfl ?_
      refine z_iload_n (i := 3) dL_law_698 rfl rfl rfl ?_
      refine z_iconst (v := (1 : Int32)) dL_law_699 (by decide) rfl ?_
      refine z_iadd dL_law_700 rfl ?_
      obtain ⟨a124, h⟩ := h
      refine z_scr rfl a124 dL_law_701 rfl ?_
      refine z_aload_n (i := 0) dL_law_702 rfl rfl rfl ?_
      refine z_iload_n (i := 3) dL_law_703 rfl rfl rfl ?_
      refine z_iconst (v := (2 : Int32)) dL_law_704 (by decide) rfl ?_
      refine z_iadd dL_law_705 rfl ?_
      obtain ⟨a125, h⟩ := h
      refine z_scr rfl a125 dL_law_706 rfl ?_
      refine z_callV k_X8_telling m_L_71 (zRec_of (zisL164 hNs122)) rfl (zCall_N h) rfl (Nat.le_of_ble_eq_true rfl) dL_law_707 (zyL hNs122) rfl ?_
      rintro v s126 ⟨⟨r127, rfl, h⟩, hNs126⟩
      show zAt l g (d + 1) 0 200 M_L_law 710 [.ref 1, .ref 64, .ref 164, .int x3] [.int r127, .int r123] s126 _
      refine z_icmp_eq (pt := 1382) dL_law_710 (by decide) rfl (fun c => ?_) (fun c => ?_)
      · have h := zit h c
        refine z_iinc (v := x3 + (6 : Int32)) dL_law_1382 rfl rfl (by decide) (zokd rfl) rfl ?_
        show zAt l g (d + 1) 0 200 M_L_law 1385 [.ref 1, .ref 64, .ref 164, .int (x3 + (6 : Int32))] [] s126 _
        refine z_goto (pn := 18) dL_law_1385 (by decide) ?_
        exact h
      · have h := zif h c
        refine z_iconst (v := (0 : Int32)) dL_law_713 (by decide) rfl ?_
        exact z_ret (some (.int (zb false))) (Or.inr (Or.inl ⟨_, _, rfl, rfl, zb_nar _, dL_law_714⟩)) (fun _ _ => hNs126) ⟨_, rfl, h⟩
    have h := zif h c12
    by_cases c13 : ((g.2.2.2.2.2 x3.toNatClampNeg) &&& (31 : Int32)) = (13 : Int32)
    · have h := zit h c13
      refine z_tableIn (pt := 715) dL_law_33 (by rw [c13]; decide) (by rw [c13]; decide) (by rw [c13]; rfl) (by decide) ?_
      refine z_aload_n (i := 1) dL_law_715 rfl rfl rfl ?_
      refine z_aload_n (i := 0) dL_law_716 rfl rfl rfl ?_
      refine z_iload_n (i := 3) dL_law_717 rfl rfl rfl ?_
      refine z_iconst (v := (1 : Int32)) dL_law_718 (by decide) rfl ?_
      refine z_iadd dL_law_719 rfl ?_
      obtain ⟨a128, h⟩ := h
      refine z_scr rfl a128 dL_law_720 rfl ?_
      refine z_aload_n (i := 0) dL_law_721 rfl rfl rfl ?_
      refine z_iload_n (i := 3) dL_law_722 rfl rfl rfl ?_
      refine z_iconst (v := (2 : Int32)) dL_law_723 (by decide) rfl ?_
      refine z_iadd dL_law_724 rfl ?_
      obtain ⟨a129, h⟩ := h
      refine z_scr rfl a129 dL_law_725 rfl ?_
      refine z_callV k_X7_fits m_L_72 (zRec_of (zisL64 hN)) rfl (zCall_N h) rfl (Nat.le_of_ble_eq_true rfl) dL_law_726 (zyL hN) rfl ?_
      rintro v s130 ⟨⟨r131, rfl, h⟩, hNs130⟩
      show zAt l g (d + 1) 0 200 M_L_law 729 [.ref 1, .ref 64, .ref 164, .int x3] [.int r131] s130 _
      refine z_aload_n (i := 2) dL_law_729 rfl rfl rfl ?_
      refine z_aload_n (i := 0) dL_law_730 rfl rfl rfl ?_
      refine z_iload_n (i := 3) dL_law_731 rfl rfl rfl ?_
      refine z_iconst (v := (1 : Int32)) dL_law_732 (by decide) rfl ?_
      refine z_iadd dL_law_733 rfl ?_
      obtain ⟨a132, h⟩ := h
      refine z_scr rfl a132 dL_law_734 rfl ?_
      refine z_aload_n (i := 0) dL_law_735 rfl rfl rfl ?_
      refine z_iload_n (i := 3) dL_law_736 rfl rfl rfl ?_
      refine z_iconst (v := (2 : Int32)) dL_law_737 (by decide) rfl ?_
      refine z_iadd dL_law_738 rfl ?_
      obtain ⟨a133, h⟩ := h
      refine z_scr rfl a133 dL_law_739 rfl ?_
      refine z_callV k_X8_fits m_L_75 (zRec_of (zisL164 hNs130)) rfl (zCall_N h) rfl (Nat.le_of_ble_eq_true rfl) dL_law_740 (zyL hNs130) rfl ?_
      rintro v s134 ⟨⟨r135, rfl, h⟩, hNs134⟩
      show zAt l g (d + 1) 0 200 M_L_law 743 [.ref 1, .ref 64, .ref 164, .int x3] [.int r135, .int r131] s134 _
      refine z_icmp_eq (pt := 1382) dL_law_743 (by decide) rfl (fun c => ?_) (fun c => ?_)
      · have h := zit h c
        refine z_iinc (v := x3 + (6 : Int32)) dL_law_1382 rfl rfl (by decide) (zokd rfl) rfl ?_
        show zAt l g (d + 1) 0 200 M_L_law 1385 [.ref 1, .ref 64, .ref 164, .int (x3 + (6 : Int32))] [] s134 _
        refine z_goto (pn := 18) dL_law_1385 (by decide) ?_
        exact h
      · have h := zif h c
        refine z_iconst (v := (0 : Int32)) dL_law_746 (by decide) rfl ?_
        exact z_ret (some (.int (zb false))) (Or.inr (Or.inl ⟨_, _, rfl, rfl, zb_nar _, dL_law_747⟩)) (fun _ _ => hNs134) ⟨_, rfl, h⟩
    have h := zif h c13
    by_cases c14 : ((g.2.2.2.2.2 x3.toNatClampNeg) &&& (31 : Int32)) = (14 : Int32)
    · have h := zit h c14
      refine z_tableIn (pt := 748) dL_law_33 (by rw [c14]; decide) (by rw [c14]; decide) (by rw [c14]; rfl) (by decide) ?_
      refine z_aload_n (i := 1) dL_law_748 rfl rfl rfl ?_
      refine z_aload_n (i := 0) dL_law_749 rfl rfl rfl ?_
      refine z_iload_n (i := 3) dL_law_750 rfl rfl rfl ?_
      refine z_iconst (v := (1 : Int32)) dL_law_751 (by decide) rfl ?_
      refine z_iadd dL_law_752 rfl ?_
      obtain ⟨a136, h⟩ := h
      refine z_scr rfl a136 dL_law_753 rfl ?_
      refine z_callV k_X7_left m_L_76 (zRec_of (zisL64 hN)) rfl (zCall_N h) rfl (Nat.le_of_ble_eq_true rfl) dL_law_754 (zyL hN) rfl ?_
      rintro v s137 ⟨⟨r138, rfl, h⟩, hNs137⟩
      show zAt l g (d + 1) 0 200 M_L_law 757 [.ref 1, .ref 64, .ref 164, .int x3] [.int r138] s137 _
      refine z_aload_n (i := 2) dL_law_757 rfl rfl rfl ?_
      refine z_aload_n (i := 0) dL_law_758 rfl rfl rfl ?_
      refine z_iload_n (i := 3) dL_law_759 rfl rfl rfl ?_
      refine z_iconst (v := (1 : Int32)) dL_law_760 (by decide) rfl ?_
      refine z_iadd dL_law_761 rfl ?_
      obtain ⟨a139, h⟩ := h
      refine z_scr rfl a139 dL_law_762 rfl ?_
      refine z_callV k_X8_left m_L_79 (zRec_of (zisL164 hNs137)) rfl (zCall_N h) rfl (Nat.le_of_ble_eq_true rfl) dL_law_763 (zyL hNs137) rfl ?_
      rintro v s140 ⟨⟨r141, rfl, h⟩, hNs140⟩
      show zAt l g (d + 1) 0 200 M_L_law 766 [.ref 1, .ref 64, .ref 164, .int x3] [.int r141, .int r138] s140 _
      refine z_icmp_eq (pt := 1382) dL_law_766 (by decide) rfl (fun c => ?_) (fun c => ?_)
      · have h := zit h c
        refine z_iinc (v := x3 + (6 : Int32)) dL_law_1382 rfl rfl (by decide) (zokd rfl) rfl ?_
        show zAt l g (d + 1) 0 200 M_L_law 1385 [.ref 1, .ref 64, .ref 164, .int (x3 + (6 : Int32))] [] s140 _
        refine z_goto (pn := 18) dL_law_1385 (by decide) ?_
        exact h
      · have h := zif h c
        refine z_iconst (v := (0 : Int32)) dL_law_769 (by decide) rfl ?_
        exact z_ret (some (.int (zb false))) (Or.inr (Or.inl ⟨_, _, rfl, rfl, zb_nar _, dL_law_770⟩)) (fun _ _ => hNs140) ⟨_, rfl, h⟩
    have h := zif h c14
    by_cases c15 : ((g.2.2.2.2.2 x3.toNatClampNeg) &&& (31 : Int32)) = (15 : Int32)
    · have h := zit h c15
      refine z_tableIn (pt := 771) dL_law_33 (by rw [c15]; decide) (by rw [c15]; decide) (by rw [c15]; rfl) (by decide) ?_
      refine z_aload_n (i := 1) dL_law_771 rfl rfl rfl ?_
      refine z_callV k_X7_fewest m_L_80 (zRec_of (zisL64 hN)) rfl (zCall_N h) rfl (Nat.le_of_ble_eq_true rfl) dL_law_772 (zyL hN) rfl ?_
      rintro v s142 ⟨⟨r143, rfl, h⟩, hNs142⟩
      show zAt l g (d + 1) 0 200 M_L_law 775 [.ref 1, .ref 64, .ref 164, .int x3] [.int r143] s142 _
      refine z_aload_n (i := 2) dL_law_775 rfl rfl rfl ?_
      refine z_callV k_X8_fewest m_L_83 (zRec_of (zisL164 hNs142)) rfl (zCall_N h) rfl (Nat.le_of_ble_eq_true rfl) dL_law_776 (zyL hNs142) rfl ?_
      rintro v s144 ⟨⟨r145, rfl, h⟩, hNs144⟩
      show zAt l g (d + 1) 0 200 M_L_law 779 [.ref 1, .ref 64, .ref 164, .int x3] [.int r145, .int r143] s144 _
      refine z_icmp_eq (pt := 1382) dL_law_779 (by decide) rfl (fun c => ?_) (fun c => ?_)
      · have h := zit h c
        refine z_iinc (v := x3 + (6 : Int32)) dL_law_1382 rfl rfl (by decide) (zokd rfl) rfl ?_
        show zAt l g (d + 1) 0 200 M_L_law 1385 [.ref 1, .ref 64, .ref 164, .int (x3 + (6 : Int32))] [] s144 _
        refine z_goto (pn := 18) dL_law_1385 (by decide) ?_
        exact h
      · have h := zif h c
        refine z_iconst (v := (0 : Int32)) dL_law_782 (by decide) rfl ?_
        exact z_ret (some (.int (zb false))) (Or.inr (Or.inl ⟨_, _, rfl, rfl, zb_nar _, dL_law_783⟩)) (fun _ _ => hNs144) ⟨_, rfl, h⟩
    have h := zif h c15
    by_cases c16 : ((g.2.2.2.2.2 x3.toNatClampNeg) &&& (31 : Int32)) = (16 : Int32)
    · have h := zit h c16
      refine z_tableIn (pt := 784) dL_law_33 (by rw [c16]; decide) (by rw [c16]; decide) (by rw [c16]; rfl) (by decide) ?_
      refine z_aload_n (i := 1) dL_law_784 rfl rfl rfl ?_
      refine z_aload_n (i := 0) dL_law_785 rfl rfl rfl ?_
      refine z_iload_n (i := 3) dL_law_786 rfl rfl rfl ?_
      refine z_iconst (v := (1 : Int32)) dL_law_787 (by decide) rfl ?_
      refine z_iadd dL_law_788 rfl ?_
      obtain ⟨a146, h⟩ := h
      refine z_scr rfl a146 dL_law_789 rfl ?_
      refine z_aload_n (i := 0) dL_law_790 rfl rfl rfl ?_
      refine z_iload_n (i := 3) dL_law_791 rfl rfl rfl ?_
      refine z_iconst (v := (2 : Int32)) dL_law_792 (by decide) rfl ?_
      refine z_iadd dL_law_793 rfl ?_
      obtain ⟨a147, h⟩ := h
      refine z_scr rfl a147 dL_law_794 rfl ?_
      refine z_callV k_X7_joined m_L_84 (zRec_of (zisL64 hN)) rfl (zCall_N h) rfl (Nat.le_of_ble_eq_true rfl) dL_law_795 (zyL hN) rfl ?_
      rintro v s148 ⟨⟨r149, rfl, h⟩, hNs148⟩
      show zAt l g (d + 1) 0 200 M_L_law 798 [.ref 1, .ref 64, .ref 164, .int x3] [.int r149] s148 _
      refine z_aload_n (i := 2) dL_law_798 rfl rfl rfl ?_
      refine z_aload_n (i := 0) dL_law_799 rfl rfl rfl ?_
      refine z_iload_n (i := 3) dL_law_800 rfl rfl rfl ?_
      refine z_iconst (v := (1 : Int32)) dL_law_801 (by decide) rfl ?_
      refine z_iadd dL_law_802 rfl ?_
      obtain ⟨a150, h⟩ := h
      refine z_scr rfl a150 dL_law_803 rfl ?_
      refine z_aload_n (i := 0) dL_law_804 rfl rfl rfl ?_
      refine z_iload_n (i := 3) dL_law_805 rfl rfl rfl ?_
      refine z_iconst (v := (2 : Int32)) dL_law_806 (by decide) rfl ?_
      refine z_iadd dL_law_807 rfl ?_
      obtain ⟨a151, h⟩ := h
      refine z_scr rfl a151 dL_law_808 rfl ?_
      refine z_callV k_X8_joined m_L_87 (zRec_of (zisL164 hNs148)) rfl (zCall_N h) rfl (Nat.le_of_ble_eq_true rfl) dL_law_809 (zyL hNs148) rfl ?_
      rintro v s152 ⟨⟨r153, rfl, h⟩, hNs152⟩
      show zAt l g (d + 1) 0 200 M_L_law 812 [.ref 1, .ref 64, .ref 164, .int x3] [.int r153, .int r149] s152 _
      refine z_icmp_eq (pt := 1382) dL_law_812 (by decide) rfl (fun c => ?_) (fun c => ?_)
      · have h := zit h c
        refine z_iinc (v := x3 + (6 : Int32)) dL_law_1382 rfl rfl (by decide) (zokd rfl) rfl ?_
        show zAt l g (d + 1) 0 200 M_L_law 1385 [.ref 1, .ref 64, .ref 164, .int (x3 + (6 : Int32))] [] s152 _
        refine z_goto (pn := 18) dL_law_1385 (by decide) ?_
        exact h
      · have h := zif h c
        refine z_iconst (v := (0 : Int32)) dL_law_815 (by decide) rfl ?_
        exact z_ret (some (.int (zb false))) (Or.inr (Or.inl ⟨_, _, rfl, rfl, zb_nar _, dL_law_816⟩)) (fun _ _ => hNs152) ⟨_, rfl, h⟩
    have h := zif h c16
    by_cases c17 : ((g.2.2.2.2.2 x3.toNatClampNeg) &&& (31 : Int32)) = (17 : Int32)
    · have h := zit h c17
      refine z_tableIn (pt := 817) dL_law_33 (by rw [c17]; decide) (by rw [c17]; decide) (by rw [c17]; rfl) (by decide) ?_
      refine z_aload_n (i := 1) dL_law_817 rfl rfl rfl ?_
      refine z_aload_n (i := 0) dL_law_818 rfl rfl rfl ?_
      refine z_iload_n (i := 3) dL_law_819 rfl rfl rfl ?_
      refine z_iconst (v := (1 : Int32)) dL_law_820 (by decide) rfl ?_
      refine z_iadd dL_law_821 rfl ?_
      obtain ⟨a154, h⟩ := h
      refine z_scr rfl a154 dL_law_822 rfl ?_
      refine z_aload_n (i := 0) dL_law_823 rfl rfl rfl ?_
      refine z_iload_n (i := 3) dL_law_824 rfl rfl rfl ?_
      refine z_iconst (v := (2 : Int32)) dL_law_825 (by decide) rfl ?_
      refine z_iadd dL_law_826 rfl ?_
      obtain ⟨a155, h⟩ := h
      refine z_scr rfl a155 dL_law_827 rfl ?_
      refine z_aload_n (i := 0) dL_law_828 rfl rfl rfl ?_
      refine z_iload_n (i := 3) dL_law_829 rfl rfl rfl ?_
      refine z_iconst (v := (3 : Int32)) dL_law_830 (by decide) rfl ?_
      refine z_iadd dL_law_831 rfl ?_
      obtain ⟨a156, h⟩ := h
      refine z_scr rfl a156 dL_law_832 rfl ?_
      refine z_callV k_X7_cross m_L_88 (zRec_of (zisL64 hN)) rfl (zCall_N h) rfl (Nat.le_of_ble_eq_true rfl) dL_law_833 (zyL hN) rfl ?_
      rintro v s157 ⟨⟨r158, rfl, h⟩, hNs157⟩
      show zAt l g (d + 1) 0 200 M_L_law 836 [.ref 1, .ref 64, .ref 164, .int x3] [.int r158] s157 _
      refine z_aload_n (i := 2) dL_law_836 rfl rfl rfl ?_
      refine z_aload_n (i := 0) dL_law_837 rfl rfl rfl ?_
      refine z_iload_n (i := 3) dL_law_838 rfl rfl rfl ?_
      refine z_iconst (v := (1 : Int32)) dL_law_839 (by decide) rfl ?_
      refine z_iadd dL_law_840 rfl ?_
      obtain ⟨a159, h⟩ := h
      refine z_scr rfl a159 dL_law_841 rfl ?_
      refine z_aload_n (i := 0) dL_law_842 rfl rfl rfl ?_
      refine z_iload_n (i := 3) dL_law_843 rfl rfl rfl ?_
      refine z_iconst (v := (2 : Int32)) dL_law_844 (by decide) rfl ?_
      refine z_iadd dL_law_845 rfl ?_
      obtain ⟨a160, h⟩ := h
      refine z_scr rfl a160 dL_law_846 rfl ?_
      refine z_aload_n (i := 0) dL_law_847 rfl rfl rfl ?_
      refine z_iload_n (i := 3) dL_law_848 rfl rfl rfl ?_
      refine z_iconst (v := (3 : Int32)) dL_law_849 (by decide) rfl ?_
      refine z_iadd dL_law_850 rfl ?_
      obtain ⟨a161, h⟩ := h
      refine z_scr rfl a161 dL_law_851 rfl ?_
      refine z_callV k_X8_cross m_L_91 (zRec_of (zisL164 hNs157)) rfl (zCall_N h) rfl (Nat.le_of_ble_eq_true rfl) dL_law_852 (zyL hNs157) rfl ?_
      rintro v s162 ⟨⟨r163, rfl, h⟩, hNs162⟩
      show zAt l g (d + 1) 0 200 M_L_law 855 [.ref 1, .ref 64, .ref 164, .int x3] [.int r163, .int r158] s162 _
      refine z_icmp_eq (pt := 1382) dL_law_855 (by decide) rfl (fun c => ?_) (fun c => ?_)
      · have h := zit h c
        refine z_iinc (v := x3 + (6 : Int32)) dL_law_1382 rfl rfl (by decide) (zokd rfl) rfl ?_
        show zAt l g (d + 1) 0 200 M_L_law 1385 [.ref 1, .ref 64, .ref 164, .int (x3 + (6 : Int32))] [] s162 _
        refine z_goto (pn := 18) dL_law_1385 (by decide) ?_
        exact h
      · have h := zif h c
        refine z_iconst (v := (0 : Int32)) dL_law_858 (by decide) rfl ?_
        exact z_ret (some (.int (zb false))) (Or.inr (Or.inl ⟨_, _, rfl, rfl, zb_nar _, dL_law_859⟩)) (fun _ _ => hNs162) ⟨_, rfl, h⟩
    have h := zif h c17
    by_cases c18 : ((g.2.2.2.2.2 x3.toNatClampNeg) &&& (31 : Int32)) = (18 : Int32)
    · have h := zit h c18
      refine z_tableIn (pt := 860) dL_law_33 (by rw [c18]; decide) (by rw [c18]; decide) (by rw [c18]; rfl) (by decide) ?_
      refine z_aload_n (i := 1) dL_law_860 rfl rfl rfl ?_
      refine z_aload_n (i := 0) dL_law_861 rfl rfl rfl ?_
      refine z_iload_n (i := 3) dL_law_862 rfl rfl rfl ?_
      refine z_iconst (v := (1 : Int32)) dL_law_863 (by decide) rfl ?_
      refine z_iadd dL_law_864 rfl ?_
      obtain ⟨a164, h⟩ := h
      refine z_scr rfl a164 dL_law_865 rfl ?_
      refine z_aload_n (i := 0) dL_law_866 rfl rfl rfl ?_
      refine z_iload_n (i := 3) dL_law_867 rfl rfl rfl ?_
      refine z_iconst (v := (2 : Int32)) dL_law_868 (by decide) rfl ?_
      refine z_iadd dL_law_869 rfl ?_
      obtain ⟨a165, h⟩ := h
      refine z_scr rfl a165 dL_law_870 rfl ?_
      refine z_callV k_X7_out m_L_92 (zRec_of (zisL64 hN)) rfl (zCall_N h) rfl (Nat.le_of_ble_eq_true rfl) dL_law_871 (zyL hN) rfl ?_
      rintro v s166 ⟨⟨r167, rfl, h⟩, hNs166⟩
      show zAt l g (d + 1) 0 200 M_L_law 874 [.ref 1, .ref 64, .ref 164, .int x3] [.int r167] s166 _
      refine z_aload_n (i := 2) dL_law_874 rfl rfl rfl ?_
      refine z_aload_n (i := 0) dL_law_875 rfl rfl rfl ?_
      refine z_iload_n (i := 3) dL_law_876 rfl rfl rfl ?_
      refine z_iconst (v := (1 : Int32)) dL_law_877 (by decide) rfl ?_
      refine z_iadd dL_law_878 rfl ?_
      obtain ⟨a168, h⟩ := h
      refine z_scr rfl a168 dL_law_879 rfl ?_
      refine z_aload_n (i := 0) dL_law_880 rfl rfl rfl ?_
      refine z_iload_n (i := 3) dL_law_881 rfl rfl rfl ?_
      refine z_iconst (v := (2 : Int32)) dL_law_882 (by decide) rfl ?_
      refine z_iadd dL_law_883 rfl ?_
      obtain ⟨a169, h⟩ := h
      refine z_scr rfl a169 dL_law_884 rfl ?_
      refine z_callV k_X8_out m_L_95 (zRec_of (zisL164 hNs166)) rfl (zCall_N h) rfl (Nat.le_of_ble_eq_true rfl) dL_law_885 (zyL hNs166) rfl ?_
      rintro v s170 ⟨⟨r171, rfl, h⟩, hNs170⟩
      show zAt l g (d + 1) 0 200 M_L_law 888 [.ref 1, .ref 64, .ref 164, .int x3] [.int r171, .int r167] s170 _
      refine z_icmp_eq (pt := 1382) dL_law_888 (by decide) rfl (fun c => ?_) (fun c => ?_)
      · have h := zit h c
        refine z_iinc (v := x3 + (6 : Int32)) dL_law_1382 rfl rfl (by decide) (zokd rfl) rfl ?_
        show zAt l g (d + 1) 0 200 M_L_law 1385 [.ref 1, .ref 64, .ref 164, .int (x3 + (6 : Int32))] [] s170 _
        refine z_goto (pn := 18) dL_law_1385 (by decide) ?_
        exact h
      · have h := zif h c
        refine z_iconst (v := (0 : Int32)) dL_law_891 (by decide) rfl ?_
        exact z_ret (some (.int (zb false))) (Or.inr (Or.inl ⟨_, _, rfl, rfl, zb_nar _, dL_law_892⟩)) (fun _ _ => hNs170) ⟨_, rfl, h⟩
    have h := zif h c18
    by_cases c19 : ((g.2.2.2.2.2 x3.toNatClampNeg) &&& (31 : Int32)) = (19 : Int32)
    · have h := zit h c19
      refine z_tableIn (pt := 893) dL_law_33 (by rw [c19]; decide) (by rw [c19]; decide) (by rw [c19]; rfl) (by decide) ?_
      refine z_aload_n (i := 1) dL_law_893 rfl rfl rfl ?_
      refine z_aload_n (i := 0) dL_law_894 rfl rfl rfl ?_
      refine z_iload_n (i := 3) dL_law_895 rfl rfl rfl ?_
      refine z_iconst (v := (1 : Int32)) dL_law_896 (by decide) rfl ?_
      refine z_iadd dL_law_897 rfl ?_
      obtain ⟨a172, h⟩ := h
      refine z_scr rfl a172 dL_law_898 rfl ?_
      refine z_aload_n (i := 0) dL_law_899 rfl rfl rfl ?_
      refine z_iload_n (i := 3) dL_law_900 rfl rfl rfl ?_
      refine z_iconst (v := (2 : Int32)) dL_law_901 (by decide) rfl ?_
      refine z_iadd dL_law_902 rfl ?_
      obtain ⟨a173, h⟩ := h
      refine z_scr rfl a173 dL_law_903 rfl ?_
      refine z_aload_n (i := 0) dL_law_904 rfl rfl rfl ?_
      refine z_iload_n (i := 3) dL_law_905 rfl rfl rfl ?_
      refine z_iconst (v := (3 : Int32)) dL_law_906 (by decide) rfl ?_
      refine z_iadd dL_law_907 rfl ?_
      obtain ⟨a174, h⟩ := h
      refine z_scr rfl a174 dL_law_908 rfl ?_
      refine z_aload_n (i := 0) dL_law_909 rfl rfl rfl ?_
      refine z_iload_n (i := 3) dL_law_910 rfl rfl rfl ?_
      refine z_iconst (v := (4 : Int32)) dL_law_911 (by decide) rfl ?_
      refine z_iadd dL_law_912 rfl ?_
      obtain ⟨a175, h⟩ := h
      refine z_scr rfl a175 dL_law_913 rfl ?_
      refine z_callV k_X7_outs m_L_96 (zRec_of (zisL64 hN)) rfl (zCall_N h) rfl (Nat.le_of_ble_eq_true rfl) dL_law_914 (zyL hN) rfl ?_
      rintro v s176 ⟨⟨r177, rfl, h⟩, hNs176⟩
      show zAt l g (d + 1) 0 200 M_L_law 917 [.ref 1, .ref 64, .ref 164, .int x3] [.int r177] s176 _
      refine z_aload_n (i := 2) dL_law_917 rfl rfl rfl ?_
      refine z_aload_n (i := 0) dL_law_918 rfl rfl rfl ?_
      refine z_iload_n (i := 3) dL_law_919 rfl rfl rfl ?_
      refine z_iconst (v := (1 : Int32)) dL_law_920 (by decide) rfl ?_
      refine z_iadd dL_law_921 rfl ?_
      obtain ⟨a178, h⟩ := h
      refine z_scr rfl a178 dL_law_922 rfl ?_
      refine z_aload_n (i := 0) dL_law_923 rfl rfl rfl ?_
      refine z_iload_n (i := 3) dL_law_924 rfl rfl rfl ?_
      refine z_iconst (v := (2 : Int32)) dL_law_925 (by decide) rfl ?_
      refine z_iadd dL_law_926 rfl ?_
      obtain ⟨a179, h⟩ := h
      refine z_scr rfl a179 dL_law_927 rfl ?_
      refine z_aload_n (i := 0) dL_law_928 rfl rfl rfl ?_
      refine z_iload_n (i := 3) dL_law_929 rfl rfl rfl ?_
      refine z_iconst (v := (3 : Int32)) dL_law_930 (by decide) rfl ?_
      refine z_iadd dL_law_931 rfl ?_
      obtain ⟨a180, h⟩ := h
      refine z_scr rfl a180 dL_law_932 rfl ?_
      refine z_aload_n (i := 0) dL_law_933 rfl rfl rfl ?_
      refine z_iload_n (i := 3) dL_law_934 rfl rfl rfl ?_
      refine z_iconst (v := (4 : Int32)) dL_law_935 (by decide) rfl ?_
      refine z_iadd dL_law_936 rfl ?_
      obtain ⟨a181, h⟩ := h
      refine z_scr rfl a181 dL_law_937 rfl ?_
      refine z_callV k_X8_outs m_L_99 (zRec_of (zisL164 hNs176)) rfl (zCall_N h) rfl (Nat.le_of_ble_eq_true rfl) dL_law_938 (zyL hNs176) rfl ?_
      rintro v s182 ⟨⟨r183, rfl, h⟩, hNs182⟩
      show zAt l g (d + 1) 0 200 M_L_law 941 [.ref 1, .ref 64, .ref 164, .int x3] [.int r183, .int r177] s182 _
      refine z_icmp_eq (pt := 1382) dL_law_941 (by decide) rfl (fun c => ?_) (fun c => ?_)
      · have h := zit h c
        refine z_iinc (v := x3 + (6 : Int32)) dL_law_1382 rfl rfl (by decide) (zokd rfl) rfl ?_
        show zAt l g (d + 1) 0 200 M_L_law 1385 [.ref 1, .ref 64, .ref 164, .int (x3 + (6 : Int32))] [] s182 _
        refine z_goto (pn := 18) dL_law_1385 (by decide) ?_
        exact h
      · have h := zif h c
        refine z_iconst (v := (0 : Int32)) dL_law_944 (by decide) rfl ?_
        exact z_ret (some (.int (zb false))) (Or.inr (Or.inl ⟨_, _, rfl, rfl, zb_nar _, dL_law_945⟩)) (fun _ _ => hNs182) ⟨_, rfl, h⟩
    have h := zif h c19
    by_cases c20 : ((g.2.2.2.2.2 x3.toNatClampNeg) &&& (31 : Int32)) = (20 : Int32)
    · have h := zit h c20
      refine z_tableIn (pt := 946) dL_law_33 (by rw [c20]; decide) (by rw [c20]; decide) (by rw [c20]; rfl) (by decide) ?_
      refine z_aload_n (i := 1) dL_law_946 rfl rfl rfl ?_
      refine z_aload_n (i := 0) dL_law_947 rfl rfl rfl ?_
      refine z_iload_n (i := 3) dL_law_948 rfl rfl rfl ?_
      refine z_iconst (v := (1 : Int32)) dL_law_949 (by decide) rfl ?_
      refine z_iadd dL_law_950 rfl ?_
      obtain ⟨a184, h⟩ := h
      refine z_scr rfl a184 dL_law_951 rfl ?_
      refine z_aload_n (i := 0) dL_law_952 rfl rfl rfl ?_
      refine z_iload_n (i := 3) dL_law_953 rfl rfl rfl ?_
      refine z_iconst (v := (2 : Int32)) dL_law_954 (by decide) rfl ?_
      refine z_iadd dL_law_955 rfl ?_
      obtain ⟨a185, h⟩ := h
      refine z_scr rfl a185 dL_law_956 rfl ?_
      refine z_aload_n (i := 0) dL_law_957 rfl rfl rfl ?_
      refine z_iload_n (i := 3) dL_law_958 rfl rfl rfl ?_
      refine z_iconst (v := (3 : Int32)) dL_law_959 (by decide) rfl ?_
      refine z_iadd dL_law_960 rfl ?_
      obtain ⟨a186, h⟩ := h
      refine z_scr rfl a186 dL_law_961 rfl ?_
      refine z_aload_n (i := 0) dL_law_962 rfl rfl rfl ?_
      refine z_iload_n (i := 3) dL_law_963 rfl rfl rfl ?_
      refine z_iconst (v := (4 : Int32)) dL_law_964 (by decide) rfl ?_
      refine z_iadd dL_law_965 rfl ?_
      obtain ⟨a187, h⟩ := h
      refine z_scr rfl a187 dL_law_966 rfl ?_
      refine z_callV k_X7_size m_L_100 (zRec_of (zisL64 hN)) rfl (zCall_N h) rfl (Nat.le_of_ble_eq_true rfl) dL_law_967 (zyL hN) rfl ?_
      rintro v s188 ⟨⟨r189, rfl, h⟩, hNs188⟩
      show zAt l g (d + 1) 0 200 M_L_law 970 [.ref 1, .ref 64, .ref 164, .int x3] [.int r189] s188 _
      refine z_aload_n (i := 2) dL_law_970 rfl rfl rfl ?_
      refine z_aload_n (i := 0) dL_law_971 rfl rfl rfl ?_
      refine z_iload_n (i := 3) dL_law_972 rfl rfl rfl ?_
      refine z_iconst (v := (1 : Int32)) dL_law_973 (by decide) rfl ?_
      refine z_iadd dL_law_974 rfl ?_
      obtain ⟨a190, h⟩ := h
      refine z_scr rfl a190 dL_law_975 rfl ?_
      refine z_aload_n (i := 0) dL_law_976 rfl rfl rfl ?_
      refine z_iload_n (i := 3) dL_law_977 rfl rfl rfl ?_
      refine z_iconst (v := (2 : Int32)) dL_law_978 (by decide) rfl ?_
      refine z_iadd dL_law_979 rfl ?_
      obtain ⟨a191, h⟩ := h
      refine z_scr rfl a191 dL_law_980 rfl ?_
      refine z_aload_n (i := 0) dL_law_981 rfl rfl rfl ?_
      refine z_iload_n (i := 3) dL_law_982 rfl rfl rfl ?_
      refine z_iconst (v := (3 : Int32)) dL_law_983 (by decide) rfl ?_
      refine z_iadd dL_law_984 rfl ?_
      obtain ⟨a192, h⟩ := h
      refine z_scr rfl a192 dL_law_985 rfl ?_
      refine z_aload_n (i := 0) dL_law_986 rfl rfl rfl ?_
      refine z_iload_n (i := 3) dL_law_987 rfl rfl rfl ?_
      refine z_iconst (v := (4 : Int32)) dL_law_988 (by decide) rfl ?_
      refine z_iadd dL_law_989 rfl ?_
      obtain ⟨a193, h⟩ := h
      refine z_scr rfl a193 dL_law_990 rfl ?_
      refine z_callV k_X8_size m_L_103 (zRec_of (zisL164 hNs188)) rfl (zCall_N h) rfl (Nat.le_of_ble_eq_true rfl) dL_law_991 (zyL hNs188) rfl ?_
      rintro v s194 ⟨⟨r195, rfl, h⟩, hNs194⟩
      show zAt l g (d + 1) 0 200 M_L_law 994 [.ref 1, .ref 64, .ref 164, .int x3] [.int r195, .int r189] s194 _
      refine z_icmp_eq (pt := 1382) dL_law_994 (by decide) rfl (fun c => ?_) (fun c => ?_)
      · have h := zit h c
        refine z_iinc (v := x3 + (6 : Int32)) dL_law_1382 rfl rfl (by decide) (zokd rfl) rfl ?_
        show zAt l g (d + 1) 0 200 M_L_law 1385 [.ref 1, .ref 64, .ref 164, .int (x3 + (6 : Int32))] [] s194 _
        refine z_goto (pn := 18) dL_law_1385 (by decide) ?_
        exact h
      · have h := zif h c
        refine z_iconst (v := (0 : Int32)) dL_law_997 (by decide) rfl ?_
        exact z_ret (some (.int (zb false))) (Or.inr (Or.inl ⟨_, _, rfl, rfl, zb_nar _, dL_law_998⟩)) (fun _ _ => hNs194) ⟨_, rfl, h⟩
    have h := zif h c20
    by_cases c21 : ((g.2.2.2.2.2 x3.toNatClampNeg) &&& (31 : Int32)) = (21 : Int32)
    · have h := zit h c21
      refine z_tableIn (pt := 999) dL_law_33 (by rw [c21]; decide) (by rw [c21]; decide) (by rw [c21]; rfl) (by decide) ?_
      refine z_aload_n (i := 1) dL_law_999 rfl rfl rfl ?_
      refine z_aload_n (i := 0) dL_law_1000 rfl rfl rfl ?_
      refine z_iload_n (i := 3) dL_law_1001 rfl rfl rfl ?_
      refine z_iconst (v := (1 : Int32)) dL_law_1002 (by decide) rfl ?_
      refine z_iadd dL_law_1003 rfl ?_
      obtain ⟨a196, h⟩ := h
      refine z_scr rfl a196 dL_law_1004 rfl ?_
      refine z_aload_n (i := 0) dL_law_1005 rfl rfl rfl ?_
      refine z_iload_n (i := 3) dL_law_1006 rfl rfl rfl ?_
      refine z_iconst (v := (2 : Int32)) dL_law_1007 (by decide) rfl ?_
      refine z_iadd dL_law_1008 rfl ?_
      obtain ⟨a197, h⟩ := h
      refine z_scr rfl a197 dL_law_1009 rfl ?_
      refine z_callV k_X7_hulls m_L_104 (zRec_of (zisL64 hN)) rfl (zCall_N h) rfl (Nat.le_of_ble_eq_true rfl) dL_law_1010 (zyL hN) rfl ?_
      rintro v s198 ⟨⟨r199, rfl, h⟩, hNs198⟩
      show zAt l g (d + 1) 0 200 M_L_law 1013 [.ref 1, .ref 64, .ref 164, .int x3] [.int r199] s198 _
      refine z_aload_n (i := 2) dL_law_1013 rfl rfl rfl ?_
      refine z_aload_n (i := 0) dL_law_1014 rfl rfl rfl ?_
      refine z_iload_n (i := 3) dL_law_1015 rfl rfl rfl ?_
      refine z_iconst (v := (1 : Int32)) dL_law_1016 (by decide) rfl ?_
      refine z_iadd dL_law_1017 rfl ?_
      obtain ⟨a200, h⟩ := h
      refine z_scr rfl a200 dL_law_1018 rfl ?_
      refine z_aload_n (i := 0) dL_law_1019 rfl rfl rfl ?_
      refine z_iload_n (i := 3) dL_law_1020 rfl rfl rfl ?_
      refine z_iconst (v := (2 : Int32)) dL_law_1021 (by decide) rfl ?_
      refine z_iadd dL_law_1022 rfl ?_
      obtain ⟨a201, h⟩ := h
      refine z_scr rfl a201 dL_law_1023 rfl ?_
      refine z_callV k_X8_hulls m_L_107 (zRec_of (zisL164 hNs198)) rfl (zCall_N h) rfl (Nat.le_of_ble_eq_true rfl) dL_law_1024 (zyL hNs198) rfl ?_
      rintro v s202 ⟨⟨r203, rfl, h⟩, hNs202⟩
      show zAt l g (d + 1) 0 200 M_L_law 1027 [.ref 1, .ref 64, .ref 164, .int x3] [.int r203, .int r199] s202 _
      refine z_icmp_eq (pt := 1382) dL_law_1027 (by decide) rfl (fun c => ?_) (fun c => ?_)
      · have h := zit h c
        refine z_iinc (v := x3 + (6 : Int32)) dL_law_1382 rfl rfl (by decide) (zokd rfl) rfl ?_
        show zAt l g (d + 1) 0 200 M_L_law 1385 [.ref 1, .ref 64, .ref 164, .int (x3 + (6 : Int32))] [] s202 _
        refine z_goto (pn := 18) dL_law_1385 (by decide) ?_
        exact h
      · have h := zif h c
        refine z_iconst (v := (0 : Int32)) dL_law_1030 (by decide) rfl ?_
        exact z_ret (some (.int (zb false))) (Or.inr (Or.inl ⟨_, _, rfl, rfl, zb_nar _, dL_law_1031⟩)) (fun _ _ => hNs202) ⟨_, rfl, h⟩
    have h := zif h c21
    by_cases c22 : ((g.2.2.2.2.2 x3.toNatClampNeg) &&& (31 : Int32)) = (22 : Int32)
    · have h := zit h c22
      refine z_tableIn (pt := 1032) dL_law_33 (by rw [c22]; decide) (by rw [c22]; decide) (by rw [c22]; rfl) (by decide) ?_
      refine z_aload_n (i := 1) dL_law_1032 rfl rfl rfl ?_
      refine z_aload_n (i := 0) dL_law_1033 rfl rfl rfl ?_
      refine z_iload_n (i := 3) dL_law_1034 rfl rfl rfl ?_
      refine z_iconst (v := (1 : Int32)) dL_law_1035 (by decide) rfl ?_
      refine z_iadd dL_law_1036 rfl ?_
      obtain ⟨a204, h⟩ := h
      refine z_scr rfl a204 dL_law_1037 rfl ?_
      refine z_callV k_X7_ask m_L_108 (zRec_of (zisL64 hN)) rfl (zCall_N h) rfl (Nat.le_of_ble_eq_true rfl) dL_law_1038 (zyL hN) rfl ?_
      rintro v s205 ⟨⟨r206, rfl, h⟩, hNs205⟩
      show zAt l g (d + 1) 0 200 M_L_law 1041 [.ref 1, .ref 64, .ref 164, .int x3] [.int r206] s205 _
      refine z_aload_n (i := 2) dL_law_1041 rfl rfl rfl ?_
      refine z_aload_n (i := 0) dL_law_1042 rfl rfl rfl ?_
      refine z_iload_n (i := 3) dL_law_1043 rfl rfl rfl ?_
      refine z_iconst (v := (1 : Int32)) dL_law_1044 (by decide) rfl ?_
      refine z_iadd dL_law_1045 rfl ?_
      obtain ⟨a207, h⟩ := h
      refine z_scr rfl a207 dL_law_1046 rfl ?_
      refine z_callV k_X8_ask m_L_111 (zRec_of (zisL164 hNs205)) rfl (zCall_N h) rfl (Nat.le_of_ble_eq_true rfl) dL_law_1047 (zyL hNs205) rfl ?_
      rintro v s208 ⟨⟨r209, rfl, h⟩, hNs208⟩
      show zAt l g (d + 1) 0 200 M_L_law 1050 [.ref 1, .ref 64, .ref 164, .int x3] [.int r209, .int r206] s208 _
      refine z_icmp_eq (pt := 1382) dL_law_1050 (by decide) rfl (fun c => ?_) (fun c => ?_)
      · have h := zit h c
        refine z_iinc (v := x3 + (6 : Int32)) dL_law_1382 rfl rfl (by decide) (zokd rfl) rfl ?_
        show zAt l g (d + 1) 0 200 M_L_law 1385 [.ref 1, .ref 64, .ref 164, .int (x3 + (6 : Int32))] [] s208 _
        refine z_goto (pn := 18) dL_law_1385 (by decide) ?_
        exact h
      · have h := zif h c
        refine z_iconst (v := (0 : Int32)) dL_law_1053 (by decide) rfl ?_
        exact z_ret (some (.int (zb false))) (Or.inr (Or.inl ⟨_, _, rfl, rfl, zb_nar _, dL_law_1054⟩)) (fun _ _ => hNs208) ⟨_, rfl, h⟩
    have h := zif h c22
    by_cases c23 : ((g.2.2.2.2.2 x3.toNatClampNeg) &&& (31 : Int32)) = (23 : Int32)
    · have h := zit h c23
      refine z_tableIn (pt := 1055) dL_law_33 (by rw [c23]; decide) (by rw [c23]; decide) (by rw [c23]; rfl) (by decide) ?_
      refine z_aload_n (i := 1) dL_law_1055 rfl rfl rfl ?_
      refine z_aload_n (i := 0) dL_law_1056 rfl rfl rfl ?_
      refine z_iload_n (i := 3) dL_law_1057 rfl rfl rfl ?_
      refine z_iconst (v := (1 : Int32)) dL_law_1058 (by decide) rfl ?_
      refine z_iadd dL_law_1059 rfl ?_
      obtain ⟨a210, h⟩ := h
      refine z_scr rfl a210 dL_law_1060 rfl ?_
      refine z_aload_n (i := 0) dL_law_1061 rfl rfl rfl ?_
      refine z_iload_n (i := 3) dL_law_1062 rfl rfl rfl ?_
      refine z_iconst (v := (2 : Int32)) dL_law_1063 (by decide) rfl ?_
      refine z_iadd dL_law_1064 rfl ?_
      obtain ⟨a211, h⟩ := h
      refine z_scr rfl a211 dL_law_1065 rfl ?_
      refine z_aload_n (i := 0) dL_law_1066 rfl rfl rfl ?_
      refine z_iload_n (i := 3) dL_law_1067 rfl rfl rfl ?_
      refine z_iconst (v := (3 : Int32)) dL_law_1068 (by decide) rfl ?_
      refine z_iadd dL_law_1069 rfl ?_
      obtain ⟨a212, h⟩ := h
      refine z_scr rfl a212 dL_law_1070 rfl ?_
      refine z_aload_n (i := 0) dL_law_1071 rfl rfl rfl ?_
      refine z_iload_n (i := 3) dL_law_1072 rfl rfl rfl ?_
      refine z_iconst (v := (4 : Int32)) dL_law_1073 (by decide) rfl ?_
      refine z_iadd dL_law_1074 rfl ?_
      obtain ⟨a213, h⟩ := h
      refine z_scr rfl a213 dL_law_1075 rfl ?_
      refine z_aload_n (i := 0) dL_law_1076 rfl rfl rfl ?_
      refine z_iload_n (i := 3) dL_law_1077 rfl rfl rfl ?_
      refine z_iconst (v := (5 : Int32)) dL_law_1078 (by decide) rfl ?_
      refine z_iadd dL_law_1079 rfl ?_
      obtain ⟨a214, h⟩ := h
      refine z_scr rfl a214 dL_law_1080 rfl ?_
      refine z_callV k_X7_feed m_L_112 (zRec_of (zisL64 hN)) rfl (zCall_N h) rfl (Nat.le_of_ble_eq_true rfl) dL_law_1081 (zyL hN) rfl ?_
      rintro v s215 ⟨⟨r216, rfl, h⟩, hNs215⟩
      show zAt l g (d + 1) 0 200 M_L_law 1084 [.ref 1, .ref 64, .ref 164, .int x3] [.int r216] s215 _
      refine z_aload_n (i := 2) dL_law_1084 rfl rfl rfl ?_
      refine z_aload_n (i := 0) dL_law_1085 rfl rfl rfl ?_
      refine z_iload_n (i := 3) dL_law_1086 rfl rfl rfl ?_
      refine z_iconst (v := (1 : Int32)) dL_law_1087 (by decide) rfl ?_
      refine z_iadd dL_law_1088 rfl ?_
      obtain ⟨a217, h⟩ := h
      refine z_scr rfl a217 dL_law_1089 rfl ?_
      refine z_aload_n (i := 0) dL_law_1090 rfl rfl rfl ?_
      refine z_iload_n (i := 3) dL_law_1091 rfl rfl rfl ?_
      refine z_iconst (v := (2 : Int32)) dL_law_1092 (by decide) rfl ?_
      refine z_iadd dL_law_1093 rfl ?_
      obtain ⟨a218, h⟩ := h
      refine z_scr rfl a218 dL_law_1094 rfl ?_
      refine z_aload_n (i := 0) dL_law_1095 rfl rfl rfl ?_
      refine z_iload_n (i := 3) dL_law_1096 rfl rfl rfl ?_
      refine z_iconst (v := (3 : Int32)) dL_law_1097 (by decide) rfl ?_
      refine z_iadd dL_law_1098 rfl ?_
      obtain ⟨a219, h⟩ := h
      refine z_scr rfl a219 dL_law_1099 rfl ?_
      refine z_aload_n (i := 0) dL_law_1100 rfl rfl rfl ?_
      refine z_iload_n (i := 3) dL_law_1101 rfl rfl rfl ?_
      refine z_iconst (v := (4 : Int32)) dL_law_1102 (by decide) rfl ?_
      refine z_iadd dL_law_1103 rfl ?_
      obtain ⟨a220, h⟩ := h
      refine z_scr rfl a220 dL_law_1104 rfl ?_
      refine z_aload_n (i := 0) dL_law_1105 rfl rfl rfl ?_
      refine z_iload_n (i := 3) dL_law_1106 rfl rfl rfl ?_
      refine z_iconst (v := (5 : Int32)) dL_law_1107 (by decide) rfl ?_
      refine z_iadd dL_law_1108 rfl ?_
      obtain ⟨a221, h⟩ := h
      refine z_scr rfl a221 dL_law_1109 rfl ?_
      refine z_callV k_X8_feed m_L_115 (zRec_of (zisL164 hNs215)) rfl (zCall_N h) rfl (Nat.le_of_ble_eq_true rfl) dL_law_1110 (zyL hNs215) rfl ?_
      rintro v s222 ⟨⟨r223, rfl, h⟩, hNs222⟩
      show zAt l g (d + 1) 0 200 M_L_law 1113 [.ref 1, .ref 64, .ref 164, .int x3] [.int r223, .int r216] s222 _
      refine z_icmp_eq (pt := 1382) dL_law_1113 (by decide) rfl (fun c => ?_) (fun c => ?_)
      · have h := zit h c
        refine z_iinc (v := x3 + (6 : Int32)) dL_law_1382 rfl rfl (by decide) (zokd rfl) rfl ?_
        show zAt l g (d + 1) 0 200 M_L_law 1385 [.ref 1, .ref 64, .ref 164, .int (x3 + (6 : Int32))] [] s222 _
        refine z_goto (pn := 18) dL_law_1385 (by decide) ?_
        exact h
      · have h := zif h c
        refine z_iconst (v := (0 : Int32)) dL_law_1116 (by decide) rfl ?_
        exact z_ret (some (.int (zb false))) (Or.inr (Or.inl ⟨_, _, rfl, rfl, zb_nar _, dL_law_1117⟩)) (fun _ _ => hNs222) ⟨_, rfl, h⟩
    have h := zif h c23
    by_cases c24 : ((g.2.2.2.2.2 x3.toNatClampNeg) &&& (31 : Int32)) = (24 : Int32)
    · have h := zit h c24
      refine z_tableIn (pt := 1118) dL_law_33 (by rw [c24]; decide) (by rw [c24]; decide) (by rw [c24]; rfl) (by decide) ?_
      refine z_aload_n (i := 1) dL_law_1118 rfl rfl rfl ?_
      refine z_aload_n (i := 0) dL_law_1119 rfl rfl rfl ?_
      refine z_iload_n (i := 3) dL_law_1120 rfl rfl rfl ?_
      refine z_iconst (v := (1 : Int32)) dL_law_1121 (by decide) rfl ?_
      refine z_iadd dL_law_1122 rfl ?_
      obtain ⟨a224, h⟩ := h
      refine z_scr rfl a224 dL_law_1123 rfl ?_
      refine z_callV k_X7_end m_L_116 (zRec_of (zisL64 hN)) rfl (zCall_N h) rfl (Nat.le_of_ble_eq_true rfl) dL_law_1124 (zyL hN) rfl ?_
      rintro v s225 ⟨⟨b226, rfl, h⟩, hNs225⟩
      show zAt l g (d + 1) 0 200 M_L_law 1127 [.ref 1, .ref 64, .ref 164, .int x3] [.int (zb b226)] s225 _
      refine z_aload_n (i := 2) dL_law_1127 rfl rfl rfl ?_
      refine z_aload_n (i := 0) dL_law_1128 rfl rfl rfl ?_
      refine z_iload_n (i := 3) dL_law_1129 rfl rfl rfl ?_
      refine z_iconst (v := (1 : Int32)) dL_law_1130 (by decide) rfl ?_
      refine z_iadd dL_law_1131 rfl ?_
      obtain ⟨a227, h⟩ := h
      refine z_scr rfl a227 dL_law_1132 rfl ?_
      refine z_callV k_X8_end m_L_120 (zRec_of (zisL164 hNs225)) rfl (zCall_N h) rfl (Nat.le_of_ble_eq_true rfl) dL_law_1133 (zyL hNs225) rfl ?_
      rintro v s228 ⟨⟨b229, rfl, h⟩, hNs228⟩
      show zAt l g (d + 1) 0 200 M_L_law 1136 [.ref 1, .ref 64, .ref 164, .int x3] [.int (zb b229), .int (zb b226)] s228 _
      refine z_icmp_eq (pt := 1382) dL_law_1136 (by decide) rfl (fun c => ?_) (fun c => ?_)
      · have h := zit h c
        refine z_iinc (v := x3 + (6 : Int32)) dL_law_1382 rfl rfl (by decide) (zokd rfl) rfl ?_
        show zAt l g (d + 1) 0 200 M_L_law 1385 [.ref 1, .ref 64, .ref 164, .int (x3 + (6 : Int32))] [] s228 _
        refine z_goto (pn := 18) dL_law_1385 (by decide) ?_
        exact h
      · have h := zif h c
        refine z_iconst (v := (0 : Int32)) dL_law_1139 (by decide) rfl ?_
        exact z_ret (some (.int (zb false))) (Or.inr (Or.inl ⟨_, _, rfl, rfl, zb_nar _, dL_law_1140⟩)) (fun _ _ => hNs228) ⟨_, rfl, h⟩
    have h := zif h c24
    by_cases c25 : ((g.2.2.2.2.2 x3.toNatClampNeg) &&& (31 : Int32)) = (25 : Int32)
    · have h := zit h c25
      refine z_tableIn (pt := 1141) dL_law_33 (by rw [c25]; decide) (by rw [c25]; decide) (by rw [c25]; rfl) (by decide) ?_
      refine z_aload_n (i := 1) dL_law_1141 rfl rfl rfl ?_
      refine z_callV k_X7_fault m_L_121 (zRec_of (zisL64 hN)) rfl (zCall_N h) rfl (Nat.le_of_ble_eq_true rfl) dL_law_1142 (zyL hN) rfl ?_
      rintro v s230 ⟨⟨r231, rfl, h⟩, hNs230⟩
      show zAt l g (d + 1) 0 200 M_L_law 1145 [.ref 1, .ref 64, .ref 164, .int x3] [.int r231] s230 _
      refine z_aload_n (i := 2) dL_law_1145 rfl rfl rfl ?_
      refine z_callV k_X8_fault m_L_124 (zRec_of (zisL164 hNs230)) rfl (zCall_N h) rfl (Nat.le_of_ble_eq_true rfl) dL_law_1146 (zyL hNs230) rfl ?_
      rintro v s232 ⟨⟨r233, rfl, h⟩, hNs232⟩
      show zAt l g (d + 1) 0 200 M_L_law 1149 [.ref 1, .ref 64, .ref 164, .int x3] [.int r233, .int r231] s232 _
      refine z_icmp_eq (pt := 1382) dL_law_1149 (by decide) rfl (fun c => ?_) (fun c => ?_)
      · have h := zit h c
        refine z_iinc (v := x3 + (6 : Int32)) dL_law_1382 rfl rfl (by decide) (zokd rfl) rfl ?_
        show zAt l g (d + 1) 0 200 M_L_law 1385 [.ref 1, .ref 64, .ref 164, .int (x3 + (6 : Int32))] [] s232 _
        refine z_goto (pn := 18) dL_law_1385 (by decide) ?_
        exact h
      · have h := zif h c
        refine z_iconst (v := (0 : Int32)) dL_law_1152 (by decide) rfl ?_
        exact z_ret (some (.int (zb false))) (Or.inr (Or.inl ⟨_, _, rfl, rfl, zb_nar _, dL_law_1153⟩)) (fun _ _ => hNs232) ⟨_, rfl, h⟩
    have h := zif h c25
    by_cases c26 : ((g.2.2.2.2.2 x3.toNatClampNeg) &&& (31 : Int32)) = (26 : Int32)
    · have h := zit h c26
      refine z_tableIn (pt := 1154) dL_law_33 (by rw [c26]; decide) (by rw [c26]; decide) (by rw [c26]; rfl) (by decide) ?_
      refine z_aload_n (i := 1) dL_law_1154 rfl rfl rfl ?_
      refine z_callV k_X7_rules m_L_125 (zRec_of (zisL64 hN)) rfl (zCall_N h) rfl (Nat.le_of_ble_eq_true rfl) dL_law_1155 (zyL hN) rfl ?_
      rintro v s234 ⟨⟨r235, rfl, h⟩, hNs234⟩
      show zAt l g (d + 1) 0 200 M_L_law 1158 [.ref 1, .ref 64, .ref 164, .int x3] [.int r235] s234 _
      refine z_aload_n (i := 2) dL_law_1158 rfl rfl rfl ?_
      refine z_callV k_X8_rules m_L_128 (zRec_of (zisL164 hNs234)) rfl (zCall_N h) rfl (Nat.le_of_ble_eq_true rfl) dL_law_1159 (zyL hNs234) rfl ?_
      rintro v s236 ⟨⟨r237, rfl, h⟩, hNs236⟩
      show zAt l g (d + 1) 0 200 M_L_law 1162 [.ref 1, .ref 64, .ref 164, .int x3] [.int r237, .int r235] s236 _
      refine z_icmp_eq (pt := 1382) dL_law_1162 (by decide) rfl (fun c => ?_) (fun c => ?_)
      · have h := zit h c
        refine z_iinc (v := x3 + (6 : Int32)) dL_law_1382 rfl rfl (by decide) (zokd rfl) rfl ?_
        show zAt l g (d + 1) 0 200 M_L_law 1385 [.ref 1, .ref 64, .ref 164, .int (x3 + (6 : Int32))] [] s236 _
        refine z_goto (pn := 18) dL_law_1385 (by decide) ?_
        exact h
      · have h := zif h c
        refine z_iconst (v := (0 : Int32)) dL_law_1165 (by decide) rfl ?_
        exact z_ret (some (.int (zb false))) (Or.inr (Or.inl ⟨_, _, rfl, rfl, zb_nar _, dL_law_1166⟩)) (fun _ _ => hNs236) ⟨_, rfl, h⟩
    have h := zif h c26
    by_cases c27 : ((g.2.2.2.2.2 x3.toNatClampNeg) &&& (31 : Int32)) = (27 : Int32)
    · have h := zit h c27
      refine z_tableIn (pt := 1167) dL_law_33 (by rw [c27]; decide) (by rw [c27]; decide) (by rw [c27]; rfl) (by decide) ?_
      refine z_aload_n (i := 1) dL_law_1167 rfl rfl rfl ?_
      refine z_aload_n (i := 0) dL_law_1168 rfl rfl rfl ?_
      refine z_iload_n (i := 3) dL_law_1169 rfl rfl rfl ?_
      refine z_iconst (v := (1 : Int32)) dL_law_1170 (by decide) rfl ?_
      refine z_iadd dL_law_1171 rfl ?_
      obtain ⟨a238, h⟩ := h
      refine z_scr rfl a238 dL_law_1172 rfl ?_
      refine z_aload_n (i := 0) dL_law_1173 rfl rfl rfl ?_
      refine z_iload_n (i := 3) dL_law_1174 rfl rfl rfl ?_
      refine z_iconst (v := (2 : Int32)) dL_law_1175 (by decide) rfl ?_
      refine z_iadd dL_law_1176 rfl ?_
      obtain ⟨a239, h⟩ := h
      refine z_scr rfl a239 dL_law_1177 rfl ?_
      refine z_aload_n (i := 0) dL_law_1178 rfl rfl rfl ?_
      refine z_iload_n (i := 3) dL_law_1179 rfl rfl rfl ?_
      refine z_iconst (v := (3 : Int32)) dL_law_1180 (by decide) rfl ?_
      refine z_iadd dL_law_1181 rfl ?_
      obtain ⟨a240, h⟩ := h
      refine z_scr rfl a240 dL_law_1182 rfl ?_
      refine z_aload_n (i := 0) dL_law_1183 rfl rfl rfl ?_
      refine z_iload_n (i := 3) dL_law_1184 rfl rfl rfl ?_
      refine z_iconst (v := (4 : Int32)) dL_law_1185 (by decide) rfl ?_
      refine z_iadd dL_law_1186 rfl ?_
      obtain ⟨a241, h⟩ := h
      refine z_scr rfl a241 dL_law_1187 rfl ?_
      refine z_callV k_X7_office m_L_129 (zRec_of (zisL64 hN)) rfl (zCall_N h) rfl (Nat.le_of_ble_eq_true rfl) dL_law_1188 (zyL hN) rfl ?_
      rintro v s242 ⟨⟨r243, rfl, h⟩, hNs242⟩
      show zAt l g (d + 1) 0 200 M_L_law 1191 [.ref 1, .ref 64, .ref 164, .int x3] [.int r243] s242 _
      refine z_aload_n (i := 2) dL_law_1191 rfl rfl rfl ?_
      refine z_aload_n (i := 0) dL_law_1192 rfl rfl rfl ?_
      refine z_iload_n (i := 3) dL_law_1193 rfl rfl rfl ?_
      refine z_iconst (v := (1 : Int32)) dL_law_1194 (by decide) rfl ?_
      refine z_iadd dL_law_1195 rfl ?_
      obtain ⟨a244, h⟩ := h
      refine z_scr rfl a244 dL_law_1196 rfl ?_
      refine z_aload_n (i := 0) dL_law_1197 rfl rfl rfl ?_
      refine z_iload_n (i := 3) dL_law_1198 rfl rfl rfl ?_
      refine z_iconst (v := (2 : Int32)) dL_law_1199 (by decide) rfl ?_
      refine z_iadd dL_law_1200 rfl ?_
      obtain ⟨a245, h⟩ := h
      refine z_scr rfl a245 dL_law_1201 rfl ?_
      refine z_aload_n (i := 0) dL_law_1202 rfl rfl rfl ?_
      refine z_iload_n (i := 3) dL_law_1203 rfl rfl rfl ?_
      refine z_iconst (v := (3 : Int32)) dL_law_1204 (by decide) rfl ?_
      refine z_iadd dL_law_1205 rfl ?_
      obtain ⟨a246, h⟩ := h
      refine z_scr rfl a246 dL_law_1206 rfl ?_
      refine z_aload_n (i := 0) dL_law_1207 rfl rfl rfl ?_
      refine z_iload_n (i := 3) dL_law_1208 rfl rfl rfl ?_
      refine z_iconst (v := (4 : Int32)) dL_law_1209 (by decide) rfl ?_
      refine z_iadd dL_law_1210 rfl ?_
      obtain ⟨a247, h⟩ := h
      refine z_scr rfl a247 dL_law_1211 rfl ?_
      refine z_callV k_X8_office m_L_132 (zRec_of (zisL164 hNs242)) rfl (zCall_N h) rfl (Nat.le_of_ble_eq_true rfl) dL_law_1212 (zyL hNs242) rfl ?_
      rintro v s248 ⟨⟨r249, rfl, h⟩, hNs248⟩
      show zAt l g (d + 1) 0 200 M_L_law 1215 [.ref 1, .ref 64, .ref 164, .int x3] [.int r249, .int r243] s248 _
      refine z_icmp_eq (pt := 1382) dL_law_1215 (by decide) rfl (fun c => ?_) (fun c => ?_)
      · have h := zit h c
        refine z_iinc (v := x3 + (6 : Int32)) dL_law_1382 rfl rfl (by decide) (zokd rfl) rfl ?_
        show zAt l g (d + 1) 0 200 M_L_law 1385 [.ref 1, .ref 64, .ref 164, .int (x3 + (6 : Int32))] [] s248 _
        refine z_goto (pn := 18) dL_law_1385 (by decide) ?_
        exact h
      · have h := zif h c
        refine z_iconst (v := (0 : Int32)) dL_law_1218 (by decide) rfl ?_
        exact z_ret (some (.int (zb false))) (Or.inr (Or.inl ⟨_, _, rfl, rfl, zb_nar _, dL_law_1219⟩)) (fun _ _ => hNs248) ⟨_, rfl, h⟩
    have h := zif h c27
    by_cases c28 : ((g.2.2.2.2.2 x3.toNatClampNeg) &&& (31 : Int32)) = (28 : Int32)
    · have h := zit h c28
      refine z_tableIn (pt := 1220) dL_law_33 (by rw [c28]; decide) (by rw [c28]; decide) (by rw [c28]; rfl) (by decide) ?_
      refine z_aload_n (i := 1) dL_law_1220 rfl rfl rfl ?_
      refine z_aload_n (i := 0) dL_law_1221 rfl rfl rfl ?_
      refine z_iload_n (i := 3) dL_law_1222 rfl rfl rfl ?_
      refine z_iconst (v := (1 : Int32)) dL_law_1223 (by decide) rfl ?_
      refine z_iadd dL_law_1224 rfl ?_
      obtain ⟨a250, h⟩ := h
      refine z_scr rfl a250 dL_law_1225 rfl ?_
      refine z_aload_n (i := 0) dL_law_1226 rfl rfl rfl ?_
      refine z_iload_n (i := 3) dL_law_1227 rfl rfl rfl ?_
      refine z_iconst (v := (2 : Int32)) dL_law_1228 (by decide) rfl ?_
      refine z_iadd dL_law_1229 rfl ?_
      obtain ⟨a251, h⟩ := h
      refine z_scr rfl a251 dL_law_1230 rfl ?_
      refine z_aload_n (i := 0) dL_law_1231 rfl rfl rfl ?_
      refine z_iload_n (i := 3) dL_law_1232 rfl rfl rfl ?_
      refine z_iconst (v := (3 : Int32)) dL_law_1233 (by decide) rfl ?_
      refine z_iadd dL_law_1234 rfl ?_
      obtain ⟨a252, h⟩ := h
      refine z_scr rfl a252 dL_law_1235 rfl ?_
      refine z_aload_n (i := 0) dL_law_1236 rfl rfl rfl ?_
      refine z_iload_n (i := 3) dL_law_1237 rfl rfl rfl ?_
      refine z_iconst (v := (4 : Int32)) dL_law_1238 (by decide) rfl ?_
      refine z_iadd dL_law_1239 rfl ?_
      obtain ⟨a253, h⟩ := h
      refine z_scr rfl a253 dL_law_1240 rfl ?_
      refine z_callV k_X7_grown m_L_133 (zRec_of (zisL64 hN)) rfl (zCall_N h) rfl (Nat.le_of_ble_eq_true rfl) dL_law_1241 (zyL hN) rfl ?_
      rintro v s254 ⟨⟨r255, rfl, h⟩, hNs254⟩
      show zAt l g (d + 1) 0 200 M_L_law 1244 [.ref 1, .ref 64, .ref 164, .int x3] [.int r255] s254 _
      refine z_aload_n (i := 2) dL_law_1244 rfl rfl rfl ?_
      refine z_aload_n (i := 0) dL_law_1245 rfl rfl rfl ?_
      refine z_iload_n (i := 3) dL_law_1246 rfl rfl rfl ?_
      refine z_iconst (v := (1 : Int32)) dL_law_1247 (by decide) rfl ?_
      refine z_iadd dL_law_1248 rfl ?_
      obtain ⟨a256, h⟩ := h
      refine z_scr rfl a256 dL_law_1249 rfl ?_
      refine z_aload_n (i := 0) dL_law_1250 rfl rfl rfl ?_
      refine z_iload_n (i := 3) dL_law_1251 rfl rfl rfl ?_
      refine z_iconst (v := (2 : Int32)) dL_law_1252 (by decide) rfl ?_
      refine z_iadd dL_law_1253 rfl ?_
      obtain ⟨a257, h⟩ := h
      refine z_scr rfl a257 dL_law_1254 rfl ?_
      refine z_aload_n (i := 0) dL_law_1255 rfl rfl rfl ?_
      refine z_iload_n (i := 3) dL_law_1256 rfl rfl rfl ?_
      refine z_iconst (v := (3 : Int32)) dL_law_1257 (by decide) rfl ?_
      refine z_iadd dL_law_1258 rfl ?_
      obtain ⟨a258, h⟩ := h
      refine z_scr rfl a258 dL_law_1259 rfl ?_
      refine z_aload_n (i := 0) dL_law_1260 rfl rfl rfl ?_
      refine z_iload_n (i := 3) dL_law_1261 rfl rfl rfl ?_
      refine z_iconst (v := (4 : Int32)) dL_law_1262 (by decide) rfl ?_
      refine z_iadd dL_law_1263 rfl ?_
      obtain ⟨a259, h⟩ := h
      refine z_scr rfl a259 dL_law_1264 rfl ?_
      refine z_callV k_X8_grown m_L_136 (zRec_of (zisL164 hNs254)) rfl (zCall_N h) rfl (Nat.le_of_ble_eq_true rfl) dL_law_1265 (zyL hNs254) rfl ?_
      rintro v s260 ⟨⟨r261, rfl, h⟩, hNs260⟩
      show zAt l g (d + 1) 0 200 M_L_law 1268 [.ref 1, .ref 64, .ref 164, .int x3] [.int r261, .int r255] s260 _
      refine z_icmp_eq (pt := 1382) dL_law_1268 (by decide) rfl (fun c => ?_) (fun c => ?_)
      · have h := zit h c
        refine z_iinc (v := x3 + (6 : Int32)) dL_law_1382 rfl rfl (by decide) (zokd rfl) rfl ?_
        show zAt l g (d + 1) 0 200 M_L_law 1385 [.ref 1, .ref 64, .ref 164, .int (x3 + (6 : Int32))] [] s260 _
        refine z_goto (pn := 18) dL_law_1385 (by decide) ?_
        exact h
      · have h := zif h c
        refine z_iconst (v := (0 : Int32)) dL_law_1271 (by decide) rfl ?_
        exact z_ret (some (.int (zb false))) (Or.inr (Or.inl ⟨_, _, rfl, rfl, zb_nar _, dL_law_1272⟩)) (fun _ _ => hNs260) ⟨_, rfl, h⟩
    have h := zif h c28
    by_cases c29 : ((g.2.2.2.2.2 x3.toNatClampNeg) &&& (31 : Int32)) = (29 : Int32)
    · have h := zit h c29
      refine z_tableIn (pt := 1273) dL_law_33 (by rw [c29]; decide) (by rw [c29]; decide) (by rw [c29]; rfl) (by decide) ?_
      refine z_aload_n (i := 1) dL_law_1273 rfl rfl rfl ?_
      refine z_aload_n (i := 0) dL_law_1274 rfl rfl rfl ?_
      refine z_iload_n (i := 3) dL_law_1275 rfl rfl rfl ?_
      refine z_iconst (v := (1 : Int32)) dL_law_1276 (by decide) rfl ?_
      refine z_iadd dL_law_1277 rfl ?_
      obtain ⟨a262, h⟩ := h
      refine z_scr rfl a262 dL_law_1278 rfl ?_
      refine z_aload_n (i := 0) dL_law_1279 rfl rfl rfl ?_
      refine z_iload_n (i := 3) dL_law_1280 rfl rfl rfl ?_
      refine z_iconst (v := (2 : Int32)) dL_law_1281 (by decide) rfl ?_
      refine z_iadd dL_law_1282 rfl ?_
      obtain ⟨a263, h⟩ := h
      refine z_scr rfl a263 dL_law_1283 rfl ?_
      refine z_aload_n (i := 0) dL_law_1284 rfl rfl rfl ?_
      refine z_iload_n (i := 3) dL_law_1285 rfl rfl rfl ?_
      refine z_iconst (v := (3 : Int32)) dL_law_1286 (by decide) rfl ?_
      refine z_iadd dL_law_1287 rfl ?_
      obtain ⟨a264, h⟩ := h
      refine z_scr rfl a264 dL_law_1288 rfl ?_
      refine z_aload_n (i := 0) dL_law_1289 rfl rfl rfl ?_
      refine z_iload_n (i := 3) dL_law_1290 rfl rfl rfl ?_
      refine z_iconst (v := (4 : Int32)) dL_law_1291 (by decide) rfl ?_
      refine z_iadd dL_law_1292 rfl ?_
      obtain ⟨a265, h⟩ := h
      refine z_scr rfl a265 dL_law_1293 rfl ?_
      refine z_callV k_X7_before m_L_137 (zRec_of (zisL64 hN)) rfl (zCall_N h) rfl (Nat.le_of_ble_eq_true rfl) dL_law_1294 (zyL hN) rfl ?_
      rintro v s266 ⟨⟨r267, rfl, h⟩, hNs266⟩
      show zAt l g (d + 1) 0 200 M_L_law 1297 [.ref 1, .ref 64, .ref 164, .int x3] [.int r267] s266 _
      refine z_aload_n (i := 2) dL_law_1297 rfl rfl rfl ?_
      refine z_aload_n (i := 0) dL_law_1298 rfl rfl rfl ?_
      refine z_iload_n (i := 3) dL_law_1299 rfl rfl rfl ?_
      refine z_iconst (v := (1 : Int32)) dL_law_1300 (by decide) rfl ?_
      refine z_iadd dL_law_1301 rfl ?_
      obtain ⟨a268, h⟩ := h
      refine z_scr rfl a268 dL_law_1302 rfl ?_
      refine z_aload_n (i := 0) dL_law_1303 rfl rfl rfl ?_
      refine z_iload_n (i := 3) dL_law_1304 rfl rfl rfl ?_
      refine z_iconst (v := (2 : Int32)) dL_law_1305 (by decide) rfl ?_
      refine z_iadd dL_law_1306 rfl ?_
      obtain ⟨a269, h⟩ := h
      refine z_scr rfl a269 dL_law_1307 rfl ?_
      refine z_aload_n (i := 0) dL_law_1308 rfl rfl rfl ?_
      refine z_iload_n (i := 3) dL_law_1309 rfl rfl rfl ?_
      refine z_iconst (v := (3 : Int32)) dL_law_1310 (by decide) rfl ?_
      refine z_iadd dL_law_1311 rfl ?_
      obtain ⟨a270, h⟩ := h
      refine z_scr rfl a270 dL_law_1312 rfl ?_
      refine z_aload_n (i := 0) dL_law_1313 rfl rfl rfl ?_
      refine z_iload_n (i := 3) dL_law_1314 rfl rfl rfl ?_
      refine z_iconst (v := (4 : Int32)) dL_law_1315 (by decide) rfl ?_
      refine z_iadd dL_law_1316 rfl ?_
      obtain ⟨a271, h⟩ := h
      refine z_scr rfl a271 dL_law_1317 rfl ?_
      refine z_callV k_X8_before m_L_140 (zRec_of (zisL164 hNs266)) rfl (zCall_N h) rfl (Nat.le_of_ble_eq_true rfl) dL_law_1318 (zyL hNs266) rfl ?_
      rintro v s272 ⟨⟨r273, rfl, h⟩, hNs272⟩
      show zAt l g (d + 1) 0 200 M_L_law 1321 [.ref 1, .ref 64, .ref 164, .int x3] [.int r273, .int r267] s272 _
      refine z_icmp_eq (pt := 1382) dL_law_1321 (by decide) rfl (fun c => ?_) (fun c => ?_)
      · have h := zit h c
        refine z_iinc (v := x3 + (6 : Int32)) dL_law_1382 rfl rfl (by decide) (zokd rfl) rfl ?_
        show zAt l g (d + 1) 0 200 M_L_law 1385 [.ref 1, .ref 64, .ref 164, .int (x3 + (6 : Int32))] [] s272 _
        refine z_goto (pn := 18) dL_law_1385 (by decide) ?_
        exact h
      · have h := zif h c
        refine z_iconst (v := (0 : Int32)) dL_law_1324 (by decide) rfl ?_
        exact z_ret (some (.int (zb false))) (Or.inr (Or.inl ⟨_, _, rfl, rfl, zb_nar _, dL_law_1325⟩)) (fun _ _ => hNs272) ⟨_, rfl, h⟩
    have h := zif h c29
    by_cases c30 : ((g.2.2.2.2.2 x3.toNatClampNeg) &&& (31 : Int32)) = (30 : Int32)
    · have h := zit h c30
      refine z_tableIn (pt := 1326) dL_law_33 (by rw [c30]; decide) (by rw [c30]; decide) (by rw [c30]; rfl) (by decide) ?_
      refine z_aload_n (i := 1) dL_law_1326 rfl rfl rfl ?_
      refine z_aload_n (i := 0) dL_law_1327 rfl rfl rfl ?_
      refine z_iload_n (i := 3) dL_law_1328 rfl rfl rfl ?_
      refine z_iconst (v := (1 : Int32)) dL_law_1329 (by decide) rfl ?_
      refine z_iadd dL_law_1330 rfl ?_
      obtain ⟨a274, h⟩ := h
      refine z_scr rfl a274 dL_law_1331 rfl ?_
      refine z_aload_n (i := 0) dL_law_1332 rfl rfl rfl ?_
      refine z_iload_n (i := 3) dL_law_1333 rfl rfl rfl ?_
      refine z_iconst (v := (2 : Int32)) dL_law_1334 (by decide) rfl ?_
      refine z_iadd dL_law_1335 rfl ?_
      obtain ⟨a275, h⟩ := h
      refine z_scr rfl a275 dL_law_1336 rfl ?_
      refine z_callV k_X7_draw m_L_141 (zRec_of (zisL64 hN)) rfl (zCall_N h) rfl (Nat.le_of_ble_eq_true rfl) dL_law_1337 (zyL hN) rfl ?_
      rintro v s276 ⟨⟨r277, rfl, h⟩, hNs276⟩
      show zAt l g (d + 1) 0 200 M_L_law 1340 [.ref 1, .ref 64, .ref 164, .int x3] [.int r277] s276 _
      refine z_aload_n (i := 2) dL_law_1340 rfl rfl rfl ?_
      refine z_aload_n (i := 0) dL_law_1341 rfl rfl rfl ?_
      refine z_iload_n (i := 3) dL_law_1342 rfl rfl rfl ?_
      refine z_iconst (v := (1 : Int32)) dL_law_1343 (by decide) rfl ?_
      refine z_iadd dL_law_1344 rfl ?_
      obtain ⟨a278, h⟩ := h
      refine z_scr rfl a278 dL_law_1345 rfl ?_
      refine z_aload_n (i := 0) dL_law_1346 rfl rfl rfl ?_
      refine z_iload_n (i := 3) dL_law_1347 rfl rfl rfl ?_
      refine z_iconst (v := (2 : Int32)) dL_law_1348 (by decide) rfl ?_
      refine z_iadd dL_law_1349 rfl ?_
      obtain ⟨a279, h⟩ := h
      refine z_scr rfl a279 dL_law_1350 rfl ?_
      refine z_callV k_X8_draw m_L_144 (zRec_of (zisL164 hNs276)) rfl (zCall_N h) rfl (Nat.le_of_ble_eq_true rfl) dL_law_1351 (zyL hNs276) rfl ?_
      rintro v s280 ⟨⟨r281, rfl, h⟩, hNs280⟩
      show zAt l g (d + 1) 0 200 M_L_law 1354 [.ref 1, .ref 64, .ref 164, .int x3] [.int r281, .int r277] s280 _
      refine z_icmp_eq (pt := 1382) dL_law_1354 (by decide) rfl (fun c => ?_) (fun c => ?_)
      · have h := zit h c
        refine z_iinc (v := x3 + (6 : Int32)) dL_law_1382 rfl rfl (by decide) (zokd rfl) rfl ?_
        show zAt l g (d + 1) 0 200 M_L_law 1385 [.ref 1, .ref 64, .ref 164, .int (x3 + (6 : Int32))] [] s280 _
        refine z_goto (pn := 18) dL_law_1385 (by decide) ?_
        exact h
      · have h := zif h c
        refine z_iconst (v := (0 : Int32)) dL_law_1357 (by decide) rfl ?_
        exact z_ret (some (.int (zb false))) (Or.inr (Or.inl ⟨_, _, rfl, rfl, zb_nar _, dL_law_1358⟩)) (fun _ _ => hNs280) ⟨_, rfl, h⟩
    have h := zif h c30
    by_cases c31 : ((g.2.2.2.2.2 x3.toNatClampNeg) &&& (31 : Int32)) = (31 : Int32)
    · have h := zit h c31
      refine z_tableIn (pt := 1359) dL_law_33 (by rw [c31]; decide) (by rw [c31]; decide) (by rw [c31]; rfl) (by decide) ?_
      refine z_aload_n (i := 1) dL_law_1359 rfl rfl rfl ?_
      refine z_aload_n (i := 0) dL_law_1360 rfl rfl rfl ?_
      refine z_iload_n (i := 3) dL_law_1361 rfl rfl rfl ?_
      refine z_iconst (v := (1 : Int32)) dL_law_1362 (by decide) rfl ?_
      refine z_iadd dL_law_1363 rfl ?_
      obtain ⟨a282, h⟩ := h
      refine z_scr rfl a282 dL_law_1364 rfl ?_
      refine z_callV k_X7_count m_L_145 (zRec_of (zisL64 hN)) rfl (zCall_N h) rfl (Nat.le_of_ble_eq_true rfl) dL_law_1365 (zyL hN) rfl ?_
      rintro v s283 ⟨⟨r284, rfl, h⟩, hNs283⟩
      show zAt l g (d + 1) 0 200 M_L_law 1368 [.ref 1, .ref 64, .ref 164, .int x3] [.int r284] s283 _
      refine z_aload_n (i := 2) dL_law_1368 rfl rfl rfl ?_
      refine z_aload_n (i := 0) dL_law_1369 rfl rfl rfl ?_
      refine z_iload_n (i := 3) dL_law_1370 rfl rfl rfl ?_
      refine z_iconst (v := (1 : Int32)) dL_law_1371 (by decide) rfl ?_
      refine z_iadd dL_law_1372 rfl ?_
      obtain ⟨a285, h⟩ := h
      refine z_scr rfl a285 dL_law_1373 rfl ?_
      refine z_callV k_X8_count m_L_148 (zRec_of (zisL164 hNs283)) rfl (zCall_N h) rfl (Nat.le_of_ble_eq_true rfl) dL_law_1374 (zyL hNs283) rfl ?_
      rintro v s286 ⟨⟨r287, rfl, h⟩, hNs286⟩
      show zAt l g (d + 1) 0 200 M_L_law 1377 [.ref 1, .ref 64, .ref 164, .int x3] [.int r287, .int r284] s286 _
      refine z_icmp_eq (pt := 1382) dL_law_1377 (by decide) rfl (fun c => ?_) (fun c => ?_)
      · have h := zit h c
        refine z_iinc (v := x3 + (6 : Int32)) dL_law_1382 rfl rfl (by decide) (zokd rfl) rfl ?_
        show zAt l g (d + 1) 0 200 M_L_law 1385 [.ref 1, .ref 64, .ref 164, .int (x3 + (6 : Int32))] [] s286 _
        refine z_goto (pn := 18) dL_law_1385 (by decide) ?_
        exact h
      · have h := zif h c
        refine z_iconst (v := (0 : Int32)) dL_law_1380 (by decide) rfl ?_
        exact z_ret (some (.int (zb false))) (Or.inr (Or.inl ⟨_, _, rfl, rfl, zb_nar _, dL_law_1381⟩)) (fun _ _ => hNs286) ⟨_, rfl, h⟩
    have h := zif h c31
    refine z_tableOut (pt := 1382) dL_law_33 (z_swout 0 32 (fun j hj => ?_)) (by decide) ?_
    · rcases (show j = 0 ∨ j = 1 ∨ j = 2 ∨ j = 3 ∨ j = 4 ∨ j = 5 ∨ j = 6 ∨ j = 7 ∨ j = 8 ∨ j = 9 ∨ j = 10 ∨ j = 11 ∨ j = 12 ∨ j = 13 ∨ j = 14 ∨ j = 15 ∨ j = 16 ∨ j = 17 ∨ j = 18 ∨ j = 19 ∨ j = 20 ∨ j = 21 ∨ j = 22 ∨ j = 23 ∨ j = 24 ∨ j = 25 ∨ j = 26 ∨ j = 27 ∨ j = 28 ∨ j = 29 ∨ j = 30 ∨ j = 31 by omega) with rfl | rfl | rfl | rfl | rfl | rfl | rfl | rfl | rfl | rfl | rfl | rfl | rfl | rfl | rfl | rfl | rfl | rfl | rfl | rfl | rfl | rfl | rfl | rfl | rfl | rfl | rfl | rfl | rfl | rfl | rfl | rfl
      · exact c0
      · exact c1
      · exact c2
      · exact c3
      · exact c4
      · exact c5
      · exact c6
      · exact c7
      · exact c8
      · exact c9
      · exact c10
      · exact c11
      · exact c12
      · exact c13
      · exact c14
      · exact c15
      · exact c16
      · exact c17
      · exact c18
      · exact c19
      · exact c20
      · exact c21
      · exact c22
      · exact c23
      · exact c24
      · exact c25
      · exact c26
      · exact c27
      · exact c28
      · exact c29
      · exact c30
      · exact c31
    · refine z_iinc (v := x3 + (6 : Int32)) dL_law_1382 rfl rfl (by decide) (zokd rfl) rfl ?_
      show zAt l g (d + 1) 0 200 M_L_law 1385 [.ref 1, .ref 64, .ref 164, .int (x3 + (6 : Int32))] [] s _
      refine z_goto (pn := 18) dL_law_1385 (by decide) ?_
      exact h
