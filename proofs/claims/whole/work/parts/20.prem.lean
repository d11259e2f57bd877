/-! ===== the claim's start: the world is empty, the tables say what stays ===== -/
abbrev lw_fl : List Cond := flatC (Jvm.Cond.and given_1 narrow_1)
def zTm (i : Nat) : Term := Term.string (zSo i).1 (zSo i).2.1
def zTv (i : Nat) : Term := .field (zTm i) "java/lang/String" "value" "[B"
theorem st_ex : ∀ i, i < 20 → Cond.exactly (zTm i) "java/lang/String" ∈ lw_fl := by decide +kernel
theorem st_co : ∀ i, i < 20 → Cond.eq (.field (zTm i) "java/lang/String" "coder" "B") (.int 0) ∈ lw_fl := by decide +kernel
theorem st_ar : ∀ i, i < 20 → Cond.arrayOf (zTv i) .byte ∈ lw_fl := by decide +kernel
theorem st_le : ∀ i, i < 20 → Cond.eq (.length (zTv i)) (.int (Int32.ofNat (zSl.getD i 0))) ∈ lw_fl := by decide +kernel
theorem se_0_0 : Cond.eq (.elem (zTv 0) (.int (Int32.ofNat 0))) (.int 103) ∈ lw_fl := List.mem_of_getElem? (i := 13) (by decide +kernel)
theorem se_0_1 : Cond.eq (.elem (zTv 0) (.int (Int32.ofNat 1))) (.int 114) ∈ lw_fl := List.mem_of_getElem? (i := 14) (by decide +kernel)
theorem se_0_2 : Cond.eq (.elem (zTv 0) (.int (Int32.ofNat 2))) (.int 111) ∈ lw_fl := List.mem_of_getElem? (i := 15) (by decide +kernel)
theorem se_0_3 : Cond.eq (.elem (zTv 0) (.int (Int32.ofNat 3))) (.int 119) ∈ lw_fl := List.mem_of_getElem? (i := 16) (by decide +kernel)
theorem se_0_4 : Cond.eq (.elem (zTv 0) (.int (Int32.ofNat 4))) (.int 32) ∈ lw_fl := List.mem_of_getElem? (i := 17) (by decide +kernel)
theorem se_0_5 : Cond.eq (.elem (zTv 0) (.int (Int32.ofNat 5))) (.int 115) ∈ lw_fl := List.mem_of_getElem? (i := 18) (by decide +kernel)
theorem se_0_6 : Cond.eq (.elem (zTv 0) (.int (Int32.ofNat 6))) (.int 97) ∈ lw_fl := List.mem_of_getElem? (i := 19) (by decide +kernel)
theorem se_0_7 : Cond.eq (.elem (zTv 0) (.int (Int32.ofNat 7))) (.int 121) ∈ lw_fl := List.mem_of_getElem? (i := 20) (by decide +kernel)
theorem se_0_8 : Cond.eq (.elem (zTv 0) (.int (Int32.ofNat 8))) (.int 32) ∈ lw_fl := List.mem_of_getElem? (i := 21) (by decide +kernel)
theorem se_0_9 : Cond.eq (.elem (zTv 0) (.int (Int32.ofNat 9))) (.int 105) ∈ lw_fl := List.mem_of_getElem? (i := 22) (by decide +kernel)
theorem se_0_10 : Cond.eq (.elem (zTv 0) (.int (Int32.ofNat 10))) (.int 102) ∈ lw_fl := List.mem_of_getElem? (i := 23) (by decide +kernel)
theorem se_0_11 : Cond.eq (.elem (zTv 0) (.int (Int32.ofNat 11))) (.int 32) ∈ lw_fl := List.mem_of_getElem? (i := 24) (by decide +kernel)
theorem se_0_12 : Cond.eq (.elem (zTv 0) (.int (Int32.ofNat 12))) (.int 97) ∈ lw_fl := List.mem_of_getElem? (i := 25) (by decide +kernel)
theorem se_0_13 : Cond.eq (.elem (zTv 0) (.int (Int32.ofNat 13))) (.int 110) ∈ lw_fl := List.mem_of_getElem? (i := 26) (by decide +kernel)
theorem se_0_14 : Cond.eq (.elem (zTv 0) (.int (Int32.ofNat 14))) (.int 100) ∈ lw_fl := List.mem_of_getElem? (i := 27) (by decide +kernel)
theorem se_0_15 : Cond.eq (.elem (zTv 0) (.int (Int32.ofNat 15))) (.int 32) ∈ lw_fl := List.mem_of_getElem? (i := 28) (by decide +kernel)
theorem se_0_16 : Cond.eq (.elem (zTv 0) (.int (Int32.ofNat 16))) (.int 115) ∈ lw_fl := List.mem_of_getElem? (i := 29) (by decide +kernel)
theorem se_0_17 : Cond.eq (.elem (zTv 0) (.int (Int32.ofNat 17))) (.int 116) ∈ lw_fl := List.mem_of_getElem? (i := 30) (by decide +kernel)
theorem se_0_18 : Cond.eq (.elem (zTv 0) (.int (Int32.ofNat 18))) (.int 97) ∈ lw_fl := List.mem_of_getElem? (i := 31) (by decide +kernel)
theorem se_0_19 : Cond.eq (.elem (zTv 0) (.int (Int32.ofNat 19))) (.int 114) ∈ lw_fl := List.mem_of_getElem? (i := 32) (by decide +kernel)
theorem se_0_20 : Cond.eq (.elem (zTv 0) (.int (Int32.ofNat 20))) (.int 32) ∈ lw_fl := List.mem_of_getElem? (i := 33) (by decide +kernel)
theorem se_0_21 : Cond.eq (.elem (zTv 0) (.int (Int32.ofNat 21))) (.int 102) ∈ lw_fl := List.mem_of_getElem? (i := 34) (by decide +kernel)
theorem se_0_22 : Cond.eq (.elem (zTv 0) (.int (Int32.ofNat 22))) (.int 108) ∈ lw_fl := List.mem_of_getElem? (i := 35) (by decide +kernel)
theorem se_0_23 : Cond.eq (.elem (zTv 0) (.int (Int32.ofNat 23))) (.int 105) ∈ lw_fl := List.mem_of_getElem? (i := 36) (by decide +kernel)
theorem se_0_24 : Cond.eq (.elem (zTv 0) (.int (Int32.ofNat 24))) (.int 103) ∈ lw_fl := List.mem_of_getElem? (i := 37) (by decide +kernel)
theorem se_0_25 : Cond.eq (.elem (zTv 0) (.int (Int32.ofNat 25))) (.int 104) ∈ lw_fl := List.mem_of_getElem? (i := 38) (by decide +kernel)
theorem se_0_26 : Cond.eq (.elem (zTv 0) (.int (Int32.ofNat 26))) (.int 116) ∈ lw_fl := List.mem_of_getElem? (i := 39) (by decide +kernel)
theorem se_0_27 : Cond.eq (.elem (zTv 0) (.int (Int32.ofNat 27))) (.int 32) ∈ lw_fl := List.mem_of_getElem? (i := 40) (by decide +kernel)
theorem se_0_28 : Cond.eq (.elem (zTv 0) (.int (Int32.ofNat 28))) (.int 102) ∈ lw_fl := List.mem_of_getElem? (i := 41) (by decide +kernel)
theorem se_0_29 : Cond.eq (.elem (zTv 0) (.int (Int32.ofNat 29))) (.int 108) ∈ lw_fl := List.mem_of_getElem? (i := 42) (by decide +kernel)
theorem se_0_30 : Cond.eq (.elem (zTv 0) (.int (Int32.ofNat 30))) (.int 97) ∈ lw_fl := List.mem_of_getElem? (i := 43) (by decide +kernel)
theorem se_0_31 : Cond.eq (.elem (zTv 0) (.int (Int32.ofNat 31))) (.int 114) ∈ lw_fl := List.mem_of_getElem? (i := 44) (by decide +kernel)
theorem se_0_32 : Cond.eq (.elem (zTv 0) (.int (Int32.ofNat 32))) (.int 101) ∈ lw_fl := List.mem_of_getElem? (i := 45) (by decide +kernel)
theorem se_0_33 : Cond.eq (.elem (zTv 0) (.int (Int32.ofNat 33))) (.int 32) ∈ lw_fl := List.mem_of_getElem? (i := 46) (by decide +kernel)
theorem se_0_34 : Cond.eq (.elem (zTv 0) (.int (Int32.ofNat 34))) (.int 108) ∈ lw_fl := List.mem_of_getElem? (i := 47) (by decide +kernel)
theorem se_0_35 : Cond.eq (.elem (zTv 0) (.int (Int32.ofNat 35))) (.int 97) ∈ lw_fl := List.mem_of_getElem? (i := 48) (by decide +kernel)
theorem se_0_36 : Cond.eq (.elem (zTv 0) (.int (Int32.ofNat 36))) (.int 109) ∈ lw_fl := List.mem_of_getElem? (i := 49) (by decide +kernel)
theorem se_0_37 : Cond.eq (.elem (zTv 0) (.int (Int32.ofNat 37))) (.int 112) ∈ lw_fl := List.mem_of_getElem? (i := 50) (by decide +kernel)
theorem se_0_38 : Cond.eq (.elem (zTv 0) (.int (Int32.ofNat 38))) (.int 32) ∈ lw_fl := List.mem_of_getElem? (i := 51) (by decide +kernel)
theorem se_0_39 : Cond.eq (.elem (zTv 0) (.int (Int32.ofNat 39))) (.int 98) ∈ lw_fl := List.mem_of_getElem? (i := 52) (by decide +kernel)
theorem se_0_40 : Cond.eq (.elem (zTv 0) (.int (Int32.ofNat 40))) (.int 97) ∈ lw_fl := List.mem_of_getElem? (i := 53) (by decide +kernel)
theorem se_0_41 : Cond.eq (.elem (zTv 0) (.int (Int32.ofNat 41))) (.int 108) ∈ lw_fl := List.mem_of_getElem? (i := 54) (by decide +kernel)
theorem se_0_42 : Cond.eq (.elem (zTv 0) (.int (Int32.ofNat 42))) (.int 108) ∈ lw_fl := List.mem_of_getElem? (i := 55) (by decide +kernel)
theorem se_0_43 : Cond.eq (.elem (zTv 0) (.int (Int32.ofNat 43))) (.int 111) ∈ lw_fl := List.mem_of_getElem? (i := 56) (by decide +kernel)
theorem se_0_44 : Cond.eq (.elem (zTv 0) (.int (Int32.ofNat 44))) (.int 111) ∈ lw_fl := List.mem_of_getElem? (i := 57) (by decide +kernel)
theorem se_0_45 : Cond.eq (.elem (zTv 0) (.int (Int32.ofNat 45))) (.int 110) ∈ lw_fl := List.mem_of_getElem? (i := 58) (by decide +kernel)
theorem se_0_46 : Cond.eq (.elem (zTv 0) (.int (Int32.ofNat 46))) (.int 32) ∈ lw_fl := List.mem_of_getElem? (i := 59) (by decide +kernel)
theorem se_0_47 : Cond.eq (.elem (zTv 0) (.int (Int32.ofNat 47))) (.int 98) ∈ lw_fl := List.mem_of_getElem? (i := 60) (by decide +kernel)
theorem se_0_48 : Cond.eq (.elem (zTv 0) (.int (Int32.ofNat 48))) (.int 117) ∈ lw_fl := List.mem_of_getElem? (i := 61) (by decide +kernel)
theorem se_0_49 : Cond.eq (.elem (zTv 0) (.int (Int32.ofNat 49))) (.int 114) ∈ lw_fl := List.mem_of_getElem? (i := 62) (by decide +kernel)
theorem se_0_50 : Cond.eq (.elem (zTv 0) (.int (Int32.ofNat 50))) (.int 110) ∈ lw_fl := List.mem_of_getElem? (i := 63) (by decide +kernel)
theorem se_0_51 : Cond.eq (.elem (zTv 0) (.int (Int32.ofNat 51))) (.int 105) ∈ lw_fl := List.mem_of_getElem? (i := 64) (by decide +kernel)
theorem se_0_52 : Cond.eq (.elem (zTv 0) (.int (Int32.ofNat 52))) (.int 110) ∈ lw_fl := List.mem_of_getElem? (i := 65) (by decide +kernel)
theorem se_0_53 : Cond.eq (.elem (zTv 0) (.int (Int32.ofNat 53))) (.int 103) ∈ lw_fl := List.mem_of_getElem? (i := 66) (by decide +kernel)
theorem se_0_54 : Cond.eq (.elem (zTv 0) (.int (Int32.ofNat 54))) (.int 32) ∈ lw_fl := List.mem_of_getElem? (i := 67) (by decide +kernel)
theorem se_0_55 : Cond.eq (.elem (zTv 0) (.int (Int32.ofNat 55))) (.int 110) ∈ lw_fl := List.mem_of_getElem? (i := 68) (by decide +kernel)
theorem se_0_56 : Cond.eq (.elem (zTv 0) (.int (Int32.ofNat 56))) (.int 111) ∈ lw_fl := List.mem_of_getElem? (i := 69) (by decide +kernel)
theorem se_0_57 : Cond.eq (.elem (zTv 0) (.int (Int32.ofNat 57))) (.int 110) ∈ lw_fl := List.mem_of_getElem? (i := 70) (by decide +kernel)
theorem se_0_58 : Cond.eq (.elem (zTv 0) (.int (Int32.ofNat 58))) (.int 101) ∈ lw_fl := List.mem_of_getElem? (i := 71) (by decide +kernel)
theorem se_0_59 : Cond.eq (.elem (zTv 0) (.int (Int32.ofNat 59))) (.int 32) ∈ lw_fl := List.mem_of_getElem? (i := 72) (by decide +kernel)
theorem se_0_60 : Cond.eq (.elem (zTv 0) (.int (Int32.ofNat 60))) (.int 108) ∈ lw_fl := List.mem_of_getElem? (i := 73) (by decide +kernel)
theorem se_0_61 : Cond.eq (.elem (zTv 0) (.int (Int32.ofNat 61))) (.int 105) ∈ lw_fl := List.mem_of_getElem? (i := 74) (by decide +kernel)
theorem se_0_62 : Cond.eq (.elem (zTv 0) (.int (Int32.ofNat 62))) (.int 103) ∈ lw_fl := List.mem_of_getElem? (i := 75) (by decide +kernel)
theorem se_0_63 : Cond.eq (.elem (zTv 0) (.int (Int32.ofNat 63))) (.int 104) ∈ lw_fl := List.mem_of_getElem? (i := 76) (by decide +kernel)
theorem se_0_64 : Cond.eq (.elem (zTv 0) (.int (Int32.ofNat 64))) (.int 116) ∈ lw_fl := List.mem_of_getElem? (i := 77) (by decide +kernel)
theorem se_0_65 : Cond.eq (.elem (zTv 0) (.int (Int32.ofNat 65))) (.int 115) ∈ lw_fl := List.mem_of_getElem? (i := 78) (by decide +kernel)
theorem se_0_66 : Cond.eq (.elem (zTv 0) (.int (Int32.ofNat 66))) (.int 32) ∈ lw_fl := List.mem_of_getElem? (i := 79) (by decide +kernel)
theorem se_0_67 : Cond.eq (.elem (zTv 0) (.int (Int32.ofNat 67))) (.int 104) ∈ lw_fl := List.mem_of_getElem? (i := 80) (by decide +kernel)
theorem se_0_68 : Cond.eq (.elem (zTv 0) (.int (Int32.ofNat 68))) (.int 117) ∈ lw_fl := List.mem_of_getElem? (i := 81) (by decide +kernel)
theorem se_0_69 : Cond.eq (.elem (zTv 0) (.int (Int32.ofNat 69))) (.int 108) ∈ lw_fl := List.mem_of_getElem? (i := 82) (by decide +kernel)
theorem se_0_70 : Cond.eq (.elem (zTv 0) (.int (Int32.ofNat 70))) (.int 108) ∈ lw_fl := List.mem_of_getElem? (i := 83) (by decide +kernel)
theorem se_0_71 : Cond.eq (.elem (zTv 0) (.int (Int32.ofNat 71))) (.int 32) ∈ lw_fl := List.mem_of_getElem? (i := 84) (by decide +kernel)
theorem se_0_72 : Cond.eq (.elem (zTv 0) (.int (Int32.ofNat 72))) (.int 100) ∈ lw_fl := List.mem_of_getElem? (i := 85) (by decide +kernel)
theorem se_0_73 : Cond.eq (.elem (zTv 0) (.int (Int32.ofNat 73))) (.int 97) ∈ lw_fl := List.mem_of_getElem? (i := 86) (by decide +kernel)
theorem se_0_74 : Cond.eq (.elem (zTv 0) (.int (Int32.ofNat 74))) (.int 121) ∈ lw_fl := List.mem_of_getElem? (i := 87) (by decide +kernel)
theorem se_0_75 : Cond.eq (.elem (zTv 0) (.int (Int32.ofNat 75))) (.int 115) ∈ lw_fl := List.mem_of_getElem? (i := 88) (by decide +kernel)
theorem se_0_76 : Cond.eq (.elem (zTv 0) (.int (Int32.ofNat 76))) (.int 32) ∈ lw_fl := List.mem_of_getElem? (i := 89) (by decide +kernel)
theorem se_0_77 : Cond.eq (.elem (zTv 0) (.int (Int32.ofNat 77))) (.int 112) ∈ lw_fl := List.mem_of_getElem? (i := 90) (by decide +kernel)
theorem se_0_78 : Cond.eq (.elem (zTv 0) (.int (Int32.ofNat 78))) (.int 97) ∈ lw_fl := List.mem_of_getElem? (i := 91) (by decide +kernel)
theorem se_0_79 : Cond.eq (.elem (zTv 0) (.int (Int32.ofNat 79))) (.int 112) ∈ lw_fl := List.mem_of_getElem? (i := 92) (by decide +kernel)
theorem se_0_80 : Cond.eq (.elem (zTv 0) (.int (Int32.ofNat 80))) (.int 101) ∈ lw_fl := List.mem_of_getElem? (i := 93) (by decide +kernel)
theorem se_0_81 : Cond.eq (.elem (zTv 0) (.int (Int32.ofNat 81))) (.int 114) ∈ lw_fl := List.mem_of_getElem? (i := 94) (by decide +kernel)
theorem se_0_82 : Cond.eq (.elem (zTv 0) (.int (Int32.ofNat 82))) (.int 115) ∈ lw_fl := List.mem_of_getElem? (i := 95) (by decide +kernel)
theorem se_0_83 : Cond.eq (.elem (zTv 0) (.int (Int32.ofNat 83))) (.int 32) ∈ lw_fl := List.mem_of_getElem? (i := 96) (by decide +kernel)
theorem se_0_84 : Cond.eq (.elem (zTv 0) (.int (Int32.ofNat 84))) (.int 109) ∈ lw_fl := List.mem_of_getElem? (i := 97) (by decide +kernel)
theorem se_0_85 : Cond.eq (.elem (zTv 0) (.int (Int32.ofNat 85))) (.int 105) ∈ lw_fl := List.mem_of_getElem? (i := 98) (by decide +kernel)
theorem se_0_86 : Cond.eq (.elem (zTv 0) (.int (Int32.ofNat 86))) (.int 110) ∈ lw_fl := List.mem_of_getElem? (i := 99) (by decide +kernel)
theorem se_0_87 : Cond.eq (.elem (zTv 0) (.int (Int32.ofNat 87))) (.int 117) ∈ lw_fl := List.mem_of_getElem? (i := 100) (by decide +kernel)
theorem se_0_88 : Cond.eq (.elem (zTv 0) (.int (Int32.ofNat 88))) (.int 116) ∈ lw_fl := List.mem_of_getElem? (i := 101) (by decide +kernel)
theorem se_0_89 : Cond.eq (.elem (zTv 0) (.int (Int32.ofNat 89))) (.int 101) ∈ lw_fl := List.mem_of_getElem? (i := 102) (by decide +kernel)
theorem se_0_90 : Cond.eq (.elem (zTv 0) (.int (Int32.ofNat 90))) (.int 32) ∈ lw_fl := List.mem_of_getElem? (i := 103) (by decide +kernel)
theorem se_0_91 : Cond.eq (.elem (zTv 0) (.int (Int32.ofNat 91))) (.int 119) ∈ lw_fl := List.mem_of_getElem? (i := 104) (by decide +kernel)
theorem se_0_92 : Cond.eq (.elem (zTv 0) (.int (Int32.ofNat 92))) (.int 97) ∈ lw_fl := List.mem_of_getElem? (i := 105) (by decide +kernel)
theorem se_0_93 : Cond.eq (.elem (zTv 0) (.int (Int32.ofNat 93))) (.int 121) ∈ lw_fl := List.mem_of_getElem? (i := 106) (by decide +kernel)
theorem se_0_94 : Cond.eq (.elem (zTv 0) (.int (Int32.ofNat 94))) (.int 32) ∈ lw_fl := List.mem_of_getElem? (i := 107) (by decide +kernel)
theorem se_0_95 : Cond.eq (.elem (zTv 0) (.int (Int32.ofNat 95))) (.int 115) ∈ lw_fl := List.mem_of_getElem? (i := 108) (by decide +kernel)
theorem se_0_96 : Cond.eq (.elem (zTv 0) (.int (Int32.ofNat 96))) (.int 108) ∈ lw_fl := List.mem_of_getElem? (i := 109) (by decide +kernel)
theorem se_0_97 : Cond.eq (.elem (zTv 0) (.int (Int32.ofNat 97))) (.int 111) ∈ lw_fl := List.mem_of_getElem? (i := 110) (by decide +kernel)
theorem se_0_98 : Cond.eq (.elem (zTv 0) (.int (Int32.ofNat 98))) (.int 112) ∈ lw_fl := List.mem_of_getElem? (i := 111) (by decide +kernel)
theorem se_0_99 : Cond.eq (.elem (zTv 0) (.int (Int32.ofNat 99))) (.int 101) ∈ lw_fl := List.mem_of_getElem? (i := 112) (by decide +kernel)
theorem se_0_100 : Cond.eq (.elem (zTv 0) (.int (Int32.ofNat 100))) (.int 32) ∈ lw_fl := List.mem_of_getElem? (i := 113) (by decide +kernel)
theorem se_0 : ∀ j, j < 101 → Cond.eq (.elem (zTv 0) (.int (Int32.ofNat j))) (.int ((zSb.getD 0 []).getD j 0)) ∈ lw_fl := fun j hj => by
  match j, hj with
  | 0, _ => exact se_0_0
  | 1, _ => exact se_0_1
  | 2, _ => exact se_0_2
  | 3, _ => exact se_0_3
  | 4, _ => exact se_0_4
  | 5, _ => exact se_0_5
  | 6, _ => exact se_0_6
  | 7, _ => exact se_0_7
  | 8, _ => exact se_0_8
  | 9, _ => exact se_0_9
  | 10, _ => exact se_0_10
  | 11, _ => exact se_0_11
  | 12, _ => exact se_0_12
  | 13, _ => exact se_0_13
  | 14, _ => exact se_0_14
  | 15, _ => exact se_0_15
  | 16, _ => exact se_0_16
  | 17, _ => exact se_0_17
  | 18, _ => exact se_0_18
  | 19, _ => exact se_0_19
  | 20, _ => exact se_0_20
  | 21, _ => exact se_0_21
  | 22, _ => exact se_0_22
  | 23, _ => exact se_0_23
  | 24, _ => exact se_0_24
  | 25, _ => exact se_0_25
  | 26, _ => exact se_0_26
  | 27, _ => exact se_0_27
  | 28, _ => exact se_0_28
  | 29, _ => exact se_0_29
  | 30, _ => exact se_0_30
  | 31, _ => exact se_0_31
  | 32, _ => exact se_0_32
  | 33, _ => exact se_0_33
  | 34, _ => exact se_0_34
  | 35, _ => exact se_0_35
  | 36, _ => exact se_0_36
  | 37, _ => exact se_0_37
  | 38, _ => exact se_0_38
  | 39, _ => exact se_0_39
  | 40, _ => exact se_0_40
  | 41, _ => exact se_0_41
  | 42, _ => exact se_0_42
  | 43, _ => exact se_0_43
  | 44, _ => exact se_0_44
  | 45, _ => exact se_0_45
  | 46, _ => exact se_0_46
  | 47, _ => exact se_0_47
  | 48, _ => exact se_0_48
  | 49, _ => exact se_0_49
  | 50, _ => exact se_0_50
  | 51, _ => exact se_0_51
  | 52, _ => exact se_0_52
  | 53, _ => exact se_0_53
  | 54, _ => exact se_0_54
  | 55, _ => exact se_0_55
  | 56, _ => exact se_0_56
  | 57, _ => exact se_0_57
  | 58, _ => exact se_0_58
  | 59, _ => exact se_0_59
  | 60, _ => exact se_0_60
  | 61, _ => exact se_0_61
  | 62, _ => exact se_0_62
  | 63, _ => exact se_0_63
  | 64, _ => exact se_0_64
  | 65, _ => exact se_0_65
  | 66, _ => exact se_0_66
  | 67, _ => exact se_0_67
  | 68, _ => exact se_0_68
  | 69, _ => exact se_0_69
  | 70, _ => exact se_0_70
  | 71, _ => exact se_0_71
  | 72, _ => exact se_0_72
  | 73, _ => exact se_0_73
  | 74, _ => exact se_0_74
  | 75, _ => exact se_0_75
  | 76, _ => exact se_0_76
  | 77, _ => exact se_0_77
  | 78, _ => exact se_0_78
  | 79, _ => exact se_0_79
  | 80, _ => exact se_0_80
  | 81, _ => exact se_0_81
  | 82, _ => exact se_0_82
  | 83, _ => exact se_0_83
  | 84, _ => exact se_0_84
  | 85, _ => exact se_0_85
  | 86, _ => exact se_0_86
  | 87, _ => exact se_0_87
  | 88, _ => exact se_0_88
  | 89, _ => exact se_0_89
  | 90, _ => exact se_0_90
  | 91, _ => exact se_0_91
  | 92, _ => exact se_0_92
  | 93, _ => exact se_0_93
  | 94, _ => exact se_0_94
  | 95, _ => exact se_0_95
  | 96, _ => exact se_0_96
  | 97, _ => exact se_0_97
  | 98, _ => exact se_0_98
  | 99, _ => exact se_0_99
  | 100, _ => exact se_0_100
  | j + 101, h => exact absurd h (by omega)
theorem se_1_0 : Cond.eq (.elem (zTv 1) (.int (Int32.ofNat 0))) (.int 43) ∈ lw_fl := List.mem_of_getElem? (i := 118) (by decide +kernel)
theorem se_1_1 : Cond.eq (.elem (zTv 1) (.int (Int32.ofNat 1))) (.int 45) ∈ lw_fl := List.mem_of_getElem? (i := 119) (by decide +kernel)
theorem se_1_2 : Cond.eq (.elem (zTv 1) (.int (Int32.ofNat 2))) (.int 42) ∈ lw_fl := List.mem_of_getElem? (i := 120) (by decide +kernel)
theorem se_1_3 : Cond.eq (.elem (zTv 1) (.int (Int32.ofNat 3))) (.int 60) ∈ lw_fl := List.mem_of_getElem? (i := 121) (by decide +kernel)
theorem se_1_4 : Cond.eq (.elem (zTv 1) (.int (Int32.ofNat 4))) (.int 61) ∈ lw_fl := List.mem_of_getElem? (i := 122) (by decide +kernel)
theorem se_1_5 : Cond.eq (.elem (zTv 1) (.int (Int32.ofNat 5))) (.int 40) ∈ lw_fl := List.mem_of_getElem? (i := 123) (by decide +kernel)
theorem se_1_6 : Cond.eq (.elem (zTv 1) (.int (Int32.ofNat 6))) (.int 41) ∈ lw_fl := List.mem_of_getElem? (i := 124) (by decide +kernel)
theorem se_1_7 : Cond.eq (.elem (zTv 1) (.int (Int32.ofNat 7))) (.int 59) ∈ lw_fl := List.mem_of_getElem? (i := 125) (by decide +kernel)
theorem se_1 : ∀ j, j < 8 → Cond.eq (.elem (zTv 1) (.int (Int32.ofNat j))) (.int ((zSb.getD 1 []).getD j 0)) ∈ lw_fl := fun j hj => by
  match j, hj with
  | 0, _ => exact se_1_0
  | 1, _ => exact se_1_1
  | 2, _ => exact se_1_2
  | 3, _ => exact se_1_3
  | 4, _ => exact se_1_4
  | 5, _ => exact se_1_5
  | 6, _ => exact se_1_6
  | 7, _ => exact se_1_7
  | j + 8, h => exact absurd h (by omega)
theorem se_2_0 : Cond.eq (.elem (zTv 2) (.int (Int32.ofNat 0))) (.int 115) ∈ lw_fl := List.mem_of_getElem? (i := 131) (by decide +kernel)
theorem se_2_1 : Cond.eq (.elem (zTv 2) (.int (Int32.ofNat 1))) (.int 116) ∈ lw_fl := List.mem_of_getElem? (i := 132) (by decide +kernel)
theorem se_2_2 : Cond.eq (.elem (zTv 2) (.int (Int32.ofNat 2))) (.int 97) ∈ lw_fl := List.mem_of_getElem? (i := 133) (by decide +kernel)
theorem se_2_3 : Cond.eq (.elem (zTv 2) (.int (Int32.ofNat 3))) (.int 114) ∈ lw_fl := List.mem_of_getElem? (i := 134) (by decide +kernel)
theorem se_2 : ∀ j, j < 4 → Cond.eq (.elem (zTv 2) (.int (Int32.ofNat j))) (.int ((zSb.getD 2 []).getD j 0)) ∈ lw_fl := fun j hj => by
  match j, hj with
  | 0, _ => exact se_2_0
  | 1, _ => exact se_2_1
  | 2, _ => exact se_2_2
  | 3, _ => exact se_2_3
  | j + 4, h => exact absurd h (by omega)
theorem se_3_0 : Cond.eq (.elem (zTv 3) (.int (Int32.ofNat 0))) (.int 102) ∈ lw_fl := List.mem_of_getElem? (i := 141) (by decide +kernel)
theorem se_3_1 : Cond.eq (.elem (zTv 3) (.int (Int32.ofNat 1))) (.int 108) ∈ lw_fl := List.mem_of_getElem? (i := 142) (by decide +kernel)
theorem se_3_2 : Cond.eq (.elem (zTv 3) (.int (Int32.ofNat 2))) (.int 105) ∈ lw_fl := List.mem_of_getElem? (i := 143) (by decide +kernel)
theorem se_3_3 : Cond.eq (.elem (zTv 3) (.int (Int32.ofNat 3))) (.int 103) ∈ lw_fl := List.mem_of_getElem? (i := 144) (by decide +kernel)
theorem se_3_4 : Cond.eq (.elem (zTv 3) (.int (Int32.ofNat 4))) (.int 104) ∈ lw_fl := List.mem_of_getElem? (i := 145) (by decide +kernel)
theorem se_3_5 : Cond.eq (.elem (zTv 3) (.int (Int32.ofNat 5))) (.int 116) ∈ lw_fl := List.mem_of_getElem? (i := 146) (by decide +kernel)
theorem se_3 : ∀ j, j < 6 → Cond.eq (.elem (zTv 3) (.int (Int32.ofNat j))) (.int ((zSb.getD 3 []).getD j 0)) ∈ lw_fl := fun j hj => by
  match j, hj with
  | 0, _ => exact se_3_0
  | 1, _ => exact se_3_1
  | 2, _ => exact se_3_2
  | 3, _ => exact se_3_3
  | 4, _ => exact se_3_4
  | 5, _ => exact se_3_5
  | j + 6, h => exact absurd h (by omega)
theorem se_4_0 : Cond.eq (.elem (zTv 4) (.int (Int32.ofNat 0))) (.int 102) ∈ lw_fl := List.mem_of_getElem? (i := 154) (by decide +kernel)
theorem se_4_1 : Cond.eq (.elem (zTv 4) (.int (Int32.ofNat 1))) (.int 108) ∈ lw_fl := List.mem_of_getElem? (i := 155) (by decide +kernel)
theorem se_4_2 : Cond.eq (.elem (zTv 4) (.int (Int32.ofNat 2))) (.int 97) ∈ lw_fl := List.mem_of_getElem? (i := 156) (by decide +kernel)
theorem se_4_3 : Cond.eq (.elem (zTv 4) (.int (Int32.ofNat 3))) (.int 114) ∈ lw_fl := List.mem_of_getElem? (i := 157) (by decide +kernel)
theorem se_4_4 : Cond.eq (.elem (zTv 4) (.int (Int32.ofNat 4))) (.int 101) ∈ lw_fl := List.mem_of_getElem? (i := 158) (by decide +kernel)
theorem se_4 : ∀ j, j < 5 → Cond.eq (.elem (zTv 4) (.int (Int32.ofNat j))) (.int ((zSb.getD 4 []).getD j 0)) ∈ lw_fl := fun j hj => by
  match j, hj with
  | 0, _ => exact se_4_0
  | 1, _ => exact se_4_1
  | 2, _ => exact se_4_2
  | 3, _ => exact se_4_3
  | 4, _ => exact se_4_4
  | j + 5, h => exact absurd h (by omega)
theorem se_5_0 : Cond.eq (.elem (zTv 5) (.int (Int32.ofNat 0))) (.int 108) ∈ lw_fl := List.mem_of_getElem? (i := 167) (by decide +kernel)
theorem se_5_1 : Cond.eq (.elem (zTv 5) (.int (Int32.ofNat 1))) (.int 97) ∈ lw_fl := List.mem_of_getElem? (i := 168) (by decide +kernel)
theorem se_5_2 : Cond.eq (.elem (zTv 5) (.int (Int32.ofNat 2))) (.int 109) ∈ lw_fl := List.mem_of_getElem? (i := 169) (by decide +kernel)
theorem se_5_3 : Cond.eq (.elem (zTv 5) (.int (Int32.ofNat 3))) (.int 112) ∈ lw_fl := List.mem_of_getElem? (i := 170) (by decide +kernel)
theorem se_5 : ∀ j, j < 4 → Cond.eq (.elem (zTv 5) (.int (Int32.ofNat j))) (.int ((zSb.getD 5 []).getD j 0)) ∈ lw_fl := fun j hj => by
  match j, hj with
  | 0, _ => exact se_5_0
  | 1, _ => exact se_5_1
  | 2, _ => exact se_5_2
  | 3, _ => exact se_5_3
  | j + 4, h => exact absurd h (by omega)
theorem se_6_0 : Cond.eq (.elem (zTv 6) (.int (Int32.ofNat 0))) (.int 98) ∈ lw_fl := List.mem_of_getElem? (i := 180) (by decide +kernel)
theorem se_6_1 : Cond.eq (.elem (zTv 6) (.int (Int32.ofNat 1))) (.int 97) ∈ lw_fl := List.mem_of_getElem? (i := 181) (by decide +kernel)
theorem se_6_2 : Cond.eq (.elem (zTv 6) (.int (Int32.ofNat 2))) (.int 108) ∈ lw_fl := List.mem_of_getElem? (i := 182) (by decide +kernel)
theorem se_6_3 : Cond.eq (.elem (zTv 6) (.int (Int32.ofNat 3))) (.int 108) ∈ lw_fl := List.mem_of_getElem? (i := 183) (by decide +kernel)
theorem se_6_4 : Cond.eq (.elem (zTv 6) (.int (Int32.ofNat 4))) (.int 111) ∈ lw_fl := List.mem_of_getElem? (i := 184) (by decide +kernel)
theorem se_6_5 : Cond.eq (.elem (zTv 6) (.int (Int32.ofNat 5))) (.int 111) ∈ lw_fl := List.mem_of_getElem? (i := 185) (by decide +kernel)
theorem se_6_6 : Cond.eq (.elem (zTv 6) (.int (Int32.ofNat 6))) (.int 110) ∈ lw_fl := List.mem_of_getElem? (i := 186) (by decide +kernel)
theorem se_6 : ∀ j, j < 7 → Cond.eq (.elem (zTv 6) (.int (Int32.ofNat j))) (.int ((zSb.getD 6 []).getD j 0)) ∈ lw_fl := fun j hj => by
  match j, hj with
  | 0, _ => exact se_6_0
  | 1, _ => exact se_6_1
  | 2, _ => exact se_6_2
  | 3, _ => exact se_6_3
  | 4, _ => exact se_6_4
  | 5, _ => exact se_6_5
  | 6, _ => exact se_6_6
  | j + 7, h => exact absurd h (by omega)
theorem se_7_0 : Cond.eq (.elem (zTv 7) (.int (Int32.ofNat 0))) (.int 98) ∈ lw_fl := List.mem_of_getElem? (i := 197) (by decide +kernel)
theorem se_7_1 : Cond.eq (.elem (zTv 7) (.int (Int32.ofNat 1))) (.int 117) ∈ lw_fl := List.mem_of_getElem? (i := 198) (by decide +kernel)
theorem se_7_2 : Cond.eq (.elem (zTv 7) (.int (Int32.ofNat 2))) (.int 114) ∈ lw_fl := List.mem_of_getElem? (i := 199) (by decide +kernel)
theorem se_7_3 : Cond.eq (.elem (zTv 7) (.int (Int32.ofNat 3))) (.int 110) ∈ lw_fl := List.mem_of_getElem? (i := 200) (by decide +kernel)
theorem se_7_4 : Cond.eq (.elem (zTv 7) (.int (Int32.ofNat 4))) (.int 105) ∈ lw_fl := List.mem_of_getElem? (i := 201) (by decide +kernel)
theorem se_7_5 : Cond.eq (.elem (zTv 7) (.int (Int32.ofNat 5))) (.int 110) ∈ lw_fl := List.mem_of_getElem? (i := 202) (by decide +kernel)
theorem se_7_6 : Cond.eq (.elem (zTv 7) (.int (Int32.ofNat 6))) (.int 103) ∈ lw_fl := List.mem_of_getElem? (i := 203) (by decide +kernel)
theorem se_7 : ∀ j, j < 7 → Cond.eq (.elem (zTv 7) (.int (Int32.ofNat j))) (.int ((zSb.getD 7 []).getD j 0)) ∈ lw_fl := fun j hj => by
  match j, hj with
  | 0, _ => exact se_7_0
  | 1, _ => exact se_7_1
  | 2, _ => exact se_7_2
  | 3, _ => exact se_7_3
  | 4, _ => exact se_7_4
  | 5, _ => exact se_7_5
  | 6, _ => exact se_7_6
  | j + 7, h => exact absurd h (by omega)
theorem se_8_0 : Cond.eq (.elem (zTv 8) (.int (Int32.ofNat 0))) (.int 110) ∈ lw_fl := List.mem_of_getElem? (i := 215) (by decide +kernel)
theorem se_8_1 : Cond.eq (.elem (zTv 8) (.int (Int32.ofNat 1))) (.int 111) ∈ lw_fl := List.mem_of_getElem? (i := 216) (by decide +kernel)
theorem se_8_2 : Cond.eq (.elem (zTv 8) (.int (Int32.ofNat 2))) (.int 110) ∈ lw_fl := List.mem_of_getElem? (i := 217) (by decide +kernel)
theorem se_8_3 : Cond.eq (.elem (zTv 8) (.int (Int32.ofNat 3))) (.int 101) ∈ lw_fl := List.mem_of_getElem? (i := 218) (by decide +kernel)
theorem se_8 : ∀ j, j < 4 → Cond.eq (.elem (zTv 8) (.int (Int32.ofNat j))) (.int ((zSb.getD 8 []).getD j 0)) ∈ lw_fl := fun j hj => by
  match j, hj with
  | 0, _ => exact se_8_0
  | 1, _ => exact se_8_1
  | 2, _ => exact se_8_2
  | 3, _ => exact se_8_3
  | j + 4, h => exact absurd h (by omega)
theorem se_9_0 : Cond.eq (.elem (zTv 9) (.int (Int32.ofNat 0))) (.int 108) ∈ lw_fl := List.mem_of_getElem? (i := 231) (by decide +kernel)
theorem se_9_1 : Cond.eq (.elem (zTv 9) (.int (Int32.ofNat 1))) (.int 105) ∈ lw_fl := List.mem_of_getElem? (i := 232) (by decide +kernel)
theorem se_9_2 : Cond.eq (.elem (zTv 9) (.int (Int32.ofNat 2))) (.int 103) ∈ lw_fl := List.mem_of_getElem? (i := 233) (by decide +kernel)
theorem se_9_3 : Cond.eq (.elem (zTv 9) (.int (Int32.ofNat 3))) (.int 104) ∈ lw_fl := List.mem_of_getElem? (i := 234) (by decide +kernel)
theorem se_9_4 : Cond.eq (.elem (zTv 9) (.int (Int32.ofNat 4))) (.int 116) ∈ lw_fl := List.mem_of_getElem? (i := 235) (by decide +kernel)
theorem se_9_5 : Cond.eq (.elem (zTv 9) (.int (Int32.ofNat 5))) (.int 115) ∈ lw_fl := List.mem_of_getElem? (i := 236) (by decide +kernel)
theorem se_9 : ∀ j, j < 6 → Cond.eq (.elem (zTv 9) (.int (Int32.ofNat j))) (.int ((zSb.getD 9 []).getD j 0)) ∈ lw_fl := fun j hj => by
  match j, hj with
  | 0, _ => exact se_9_0
  | 1, _ => exact se_9_1
  | 2, _ => exact se_9_2
  | 3, _ => exact se_9_3
  | 4, _ => exact se_9_4
  | 5, _ => exact se_9_5
  | j + 6, h => exact absurd h (by omega)
theorem se_10_0 : Cond.eq (.elem (zTv 10) (.int (Int32.ofNat 0))) (.int 104) ∈ lw_fl := List.mem_of_getElem? (i := 250) (by decide +kernel)
theorem se_10_1 : Cond.eq (.elem (zTv 10) (.int (Int32.ofNat 1))) (.int 117) ∈ lw_fl := List.mem_of_getElem? (i := 251) (by decide +kernel)
theorem se_10_2 : Cond.eq (.elem (zTv 10) (.int (Int32.ofNat 2))) (.int 108) ∈ lw_fl := List.mem_of_getElem? (i := 252) (by decide +kernel)
theorem se_10_3 : Cond.eq (.elem (zTv 10) (.int (Int32.ofNat 3))) (.int 108) ∈ lw_fl := List.mem_of_getElem? (i := 253) (by decide +kernel)
theorem se_10 : ∀ j, j < 4 → Cond.eq (.elem (zTv 10) (.int (Int32.ofNat j))) (.int ((zSb.getD 10 []).getD j 0)) ∈ lw_fl := fun j hj => by
  match j, hj with
  | 0, _ => exact se_10_0
  | 1, _ => exact se_10_1
  | 2, _ => exact se_10_2
  | 3, _ => exact se_10_3
  | j + 4, h => exact absurd h (by omega)
theorem se_11_0 : Cond.eq (.elem (zTv 11) (.int (Int32.ofNat 0))) (.int 100) ∈ lw_fl := List.mem_of_getElem? (i := 268) (by decide +kernel)
theorem se_11_1 : Cond.eq (.elem (zTv 11) (.int (Int32.ofNat 1))) (.int 97) ∈ lw_fl := List.mem_of_getElem? (i := 269) (by decide +kernel)
theorem se_11_2 : Cond.eq (.elem (zTv 11) (.int (Int32.ofNat 2))) (.int 121) ∈ lw_fl := List.mem_of_getElem? (i := 270) (by decide +kernel)
theorem se_11_3 : Cond.eq (.elem (zTv 11) (.int (Int32.ofNat 3))) (.int 115) ∈ lw_fl := List.mem_of_getElem? (i := 271) (by decide +kernel)
theorem se_11 : ∀ j, j < 4 → Cond.eq (.elem (zTv 11) (.int (Int32.ofNat j))) (.int ((zSb.getD 11 []).getD j 0)) ∈ lw_fl := fun j hj => by
  match j, hj with
  | 0, _ => exact se_11_0
  | 1, _ => exact se_11_1
  | 2, _ => exact se_11_2
  | 3, _ => exact se_11_3
  | j + 4, h => exact absurd h (by omega)
theorem se_12_0 : Cond.eq (.elem (zTv 12) (.int (Int32.ofNat 0))) (.int 112) ∈ lw_fl := List.mem_of_getElem? (i := 287) (by decide +kernel)
theorem se_12_1 : Cond.eq (.elem (zTv 12) (.int (Int32.ofNat 1))) (.int 97) ∈ lw_fl := List.mem_of_getElem? (i := 288) (by decide +kernel)
theorem se_12_2 : Cond.eq (.elem (zTv 12) (.int (Int32.ofNat 2))) (.int 112) ∈ lw_fl := List.mem_of_getElem? (i := 289) (by decide +kernel)
theorem se_12_3 : Cond.eq (.elem (zTv 12) (.int (Int32.ofNat 3))) (.int 101) ∈ lw_fl := List.mem_of_getElem? (i := 290) (by decide +kernel)
theorem se_12_4 : Cond.eq (.elem (zTv 12) (.int (Int32.ofNat 4))) (.int 114) ∈ lw_fl := List.mem_of_getElem? (i := 291) (by decide +kernel)
theorem se_12_5 : Cond.eq (.elem (zTv 12) (.int (Int32.ofNat 5))) (.int 115) ∈ lw_fl := List.mem_of_getElem? (i := 292) (by decide +kernel)
theorem se_12 : ∀ j, j < 6 → Cond.eq (.elem (zTv 12) (.int (Int32.ofNat j))) (.int ((zSb.getD 12 []).getD j 0)) ∈ lw_fl := fun j hj => by
  match j, hj with
  | 0, _ => exact se_12_0
  | 1, _ => exact se_12_1
  | 2, _ => exact se_12_2
  | 3, _ => exact se_12_3
  | 4, _ => exact se_12_4
  | 5, _ => exact se_12_5
  | j + 6, h => exact absurd h (by omega)
theorem se_13_0 : Cond.eq (.elem (zTv 13) (.int (Int32.ofNat 0))) (.int 109) ∈ lw_fl := List.mem_of_getElem? (i := 309) (by decide +kernel)
theorem se_13_1 : Cond.eq (.elem (zTv 13) (.int (Int32.ofNat 1))) (.int 105) ∈ lw_fl := List.mem_of_getElem? (i := 310) (by decide +kernel)
theorem se_13_2 : Cond.eq (.elem (zTv 13) (.int (Int32.ofNat 2))) (.int 110) ∈ lw_fl := List.mem_of_getElem? (i := 311) (by decide +kernel)
theorem se_13_3 : Cond.eq (.elem (zTv 13) (.int (Int32.ofNat 3))) (.int 117) ∈ lw_fl := List.mem_of_getElem? (i := 312) (by decide +kernel)
theorem se_13_4 : Cond.eq (.elem (zTv 13) (.int (Int32.ofNat 4))) (.int 116) ∈ lw_fl := List.mem_of_getElem? (i := 313) (by decide +kernel)
theorem se_13_5 : Cond.eq (.elem (zTv 13) (.int (Int32.ofNat 5))) (.int 101) ∈ lw_fl := List.mem_of_getElem? (i := 314) (by decide +kernel)
theorem se_13 : ∀ j, j < 6 → Cond.eq (.elem (zTv 13) (.int (Int32.ofNat j))) (.int ((zSb.getD 13 []).getD j 0)) ∈ lw_fl := fun j hj => by
  match j, hj with
  | 0, _ => exact se_13_0
  | 1, _ => exact se_13_1
  | 2, _ => exact se_13_2
  | 3, _ => exact se_13_3
  | 4, _ => exact se_13_4
  | 5, _ => exact se_13_5
  | j + 6, h => exact absurd h (by omega)
theorem se_14_0 : Cond.eq (.elem (zTv 14) (.int (Int32.ofNat 0))) (.int 119) ∈ lw_fl := List.mem_of_getElem? (i := 332) (by decide +kernel)
theorem se_14_1 : Cond.eq (.elem (zTv 14) (.int (Int32.ofNat 1))) (.int 97) ∈ lw_fl := List.mem_of_getElem? (i := 333) (by decide +kernel)
theorem se_14_2 : Cond.eq (.elem (zTv 14) (.int (Int32.ofNat 2))) (.int 121) ∈ lw_fl := List.mem_of_getElem? (i := 334) (by decide +kernel)
theorem se_14 : ∀ j, j < 3 → Cond.eq (.elem (zTv 14) (.int (Int32.ofNat j))) (.int ((zSb.getD 14 []).getD j 0)) ∈ lw_fl := fun j hj => by
  match j, hj with
  | 0, _ => exact se_14_0
  | 1, _ => exact se_14_1
  | 2, _ => exact se_14_2
  | j + 3, h => exact absurd h (by omega)
theorem se_15_0 : Cond.eq (.elem (zTv 15) (.int (Int32.ofNat 0))) (.int 115) ∈ lw_fl := List.mem_of_getElem? (i := 353) (by decide +kernel)
theorem se_15_1 : Cond.eq (.elem (zTv 15) (.int (Int32.ofNat 1))) (.int 108) ∈ lw_fl := List.mem_of_getElem? (i := 354) (by decide +kernel)
theorem se_15_2 : Cond.eq (.elem (zTv 15) (.int (Int32.ofNat 2))) (.int 111) ∈ lw_fl := List.mem_of_getElem? (i := 355) (by decide +kernel)
theorem se_15_3 : Cond.eq (.elem (zTv 15) (.int (Int32.ofNat 3))) (.int 112) ∈ lw_fl := List.mem_of_getElem? (i := 356) (by decide +kernel)
theorem se_15_4 : Cond.eq (.elem (zTv 15) (.int (Int32.ofNat 4))) (.int 101) ∈ lw_fl := List.mem_of_getElem? (i := 357) (by decide +kernel)
theorem se_15 : ∀ j, j < 5 → Cond.eq (.elem (zTv 15) (.int (Int32.ofNat j))) (.int ((zSb.getD 15 []).getD j 0)) ∈ lw_fl := fun j hj => by
  match j, hj with
  | 0, _ => exact se_15_0
  | 1, _ => exact se_15_1
  | 2, _ => exact se_15_2
  | 3, _ => exact se_15_3
  | 4, _ => exact se_15_4
  | j + 5, h => exact absurd h (by omega)
theorem se_16_0 : Cond.eq (.elem (zTv 16) (.int (Int32.ofNat 0))) (.int 103) ∈ lw_fl := List.mem_of_getElem? (i := 377) (by decide +kernel)
theorem se_16_1 : Cond.eq (.elem (zTv 16) (.int (Int32.ofNat 1))) (.int 114) ∈ lw_fl := List.mem_of_getElem? (i := 378) (by decide +kernel)
theorem se_16_2 : Cond.eq (.elem (zTv 16) (.int (Int32.ofNat 2))) (.int 111) ∈ lw_fl := List.mem_of_getElem? (i := 379) (by decide +kernel)
theorem se_16_3 : Cond.eq (.elem (zTv 16) (.int (Int32.ofNat 3))) (.int 119) ∈ lw_fl := List.mem_of_getElem? (i := 380) (by decide +kernel)
theorem se_16 : ∀ j, j < 4 → Cond.eq (.elem (zTv 16) (.int (Int32.ofNat j))) (.int ((zSb.getD 16 []).getD j 0)) ∈ lw_fl := fun j hj => by
  match j, hj with
  | 0, _ => exact se_16_0
  | 1, _ => exact se_16_1
  | 2, _ => exact se_16_2
  | 3, _ => exact se_16_3
  | j + 4, h => exact absurd h (by omega)
theorem se_17_0 : Cond.eq (.elem (zTv 17) (.int (Int32.ofNat 0))) (.int 115) ∈ lw_fl := List.mem_of_getElem? (i := 401) (by decide +kernel)
theorem se_17_1 : Cond.eq (.elem (zTv 17) (.int (Int32.ofNat 1))) (.int 97) ∈ lw_fl := List.mem_of_getElem? (i := 402) (by decide +kernel)
theorem se_17_2 : Cond.eq (.elem (zTv 17) (.int (Int32.ofNat 2))) (.int 121) ∈ lw_fl := List.mem_of_getElem? (i := 403) (by decide +kernel)
theorem se_17 : ∀ j, j < 3 → Cond.eq (.elem (zTv 17) (.int (Int32.ofNat j))) (.int ((zSb.getD 17 []).getD j 0)) ∈ lw_fl := fun j hj => by
  match j, hj with
  | 0, _ => exact se_17_0
  | 1, _ => exact se_17_1
  | 2, _ => exact se_17_2
  | j + 3, h => exact absurd h (by omega)
theorem se_18_0 : Cond.eq (.elem (zTv 18) (.int (Int32.ofNat 0))) (.int 105) ∈ lw_fl := List.mem_of_getElem? (i := 425) (by decide +kernel)
theorem se_18_1 : Cond.eq (.elem (zTv 18) (.int (Int32.ofNat 1))) (.int 102) ∈ lw_fl := List.mem_of_getElem? (i := 426) (by decide +kernel)
theorem se_18 : ∀ j, j < 2 → Cond.eq (.elem (zTv 18) (.int (Int32.ofNat j))) (.int ((zSb.getD 18 []).getD j 0)) ∈ lw_fl := fun j hj => by
  match j, hj with
  | 0, _ => exact se_18_0
  | 1, _ => exact se_18_1
  | j + 2, h => exact absurd h (by omega)
theorem se_19_0 : Cond.eq (.elem (zTv 19) (.int (Int32.ofNat 0))) (.int 97) ∈ lw_fl := List.mem_of_getElem? (i := 449) (by decide +kernel)
theorem se_19_1 : Cond.eq (.elem (zTv 19) (.int (Int32.ofNat 1))) (.int 110) ∈ lw_fl := List.mem_of_getElem? (i := 450) (by decide +kernel)
theorem se_19_2 : Cond.eq (.elem (zTv 19) (.int (Int32.ofNat 2))) (.int 100) ∈ lw_fl := List.mem_of_getElem? (i := 451) (by decide +kernel)
theorem se_19 : ∀ j, j < 3 → Cond.eq (.elem (zTv 19) (.int (Int32.ofNat j))) (.int ((zSb.getD 19 []).getD j 0)) ∈ lw_fl := fun j hj => by
  match j, hj with
  | 0, _ => exact se_19_0
  | 1, _ => exact se_19_1
  | 2, _ => exact se_19_2
  | j + 3, h => exact absurd h (by omega)
theorem st_el : ∀ i, i < 20 → ∀ j, j < zSl.getD i 0 → Cond.eq (.elem (zTv i) (.int (Int32.ofNat j))) (.int ((zSb.getD i []).getD j 0)) ∈ lw_fl := fun i hi => by
  match i, hi with
  | 0, _ => exact se_0
  | 1, _ => exact se_1
  | 2, _ => exact se_2
  | 3, _ => exact se_3
  | 4, _ => exact se_4
  | 5, _ => exact se_5
  | 6, _ => exact se_6
  | 7, _ => exact se_7
  | 8, _ => exact se_8
  | 9, _ => exact se_9
  | 10, _ => exact se_10
  | 11, _ => exact se_11
  | 12, _ => exact se_12
  | 13, _ => exact se_13
  | 14, _ => exact se_14
  | 15, _ => exact se_15
  | 16, _ => exact se_16
  | 17, _ => exact se_17
  | 18, _ => exact se_18
  | 19, _ => exact se_19
  | i + 20, h => exact absurd h (by omega)
theorem sn_0_1 : Cond.not (Cond.eq (zTm 0) (zTm 1)) ∈ lw_fl := List.mem_of_getElem? (i := 126) (by decide +kernel)
theorem sn_0_2 : Cond.not (Cond.eq (zTm 0) (zTm 2)) ∈ lw_fl := List.mem_of_getElem? (i := 135) (by decide +kernel)
theorem sn_0_3 : Cond.not (Cond.eq (zTm 0) (zTm 3)) ∈ lw_fl := List.mem_of_getElem? (i := 147) (by decide +kernel)
theorem sn_0_4 : Cond.not (Cond.eq (zTm 0) (zTm 4)) ∈ lw_fl := List.mem_of_getElem? (i := 159) (by decide +kernel)
theorem sn_0_5 : Cond.not (Cond.eq (zTm 0) (zTm 5)) ∈ lw_fl := List.mem_of_getElem? (i := 171) (by decide +kernel)
theorem sn_0_6 : Cond.not (Cond.eq (zTm 0) (zTm 6)) ∈ lw_fl := List.mem_of_getElem? (i := 187) (by decide +kernel)
theorem sn_0_7 : Cond.not (Cond.eq (zTm 0) (zTm 7)) ∈ lw_fl := List.mem_of_getElem? (i := 204) (by decide +kernel)
theorem sn_0_8 : Cond.not (Cond.eq (zTm 0) (zTm 8)) ∈ lw_fl := List.mem_of_getElem? (i := 219) (by decide +kernel)
theorem sn_0_9 : Cond.not (Cond.eq (zTm 0) (zTm 9)) ∈ lw_fl := List.mem_of_getElem? (i := 237) (by decide +kernel)
theorem sn_0_10 : Cond.not (Cond.eq (zTm 0) (zTm 10)) ∈ lw_fl := List.mem_of_getElem? (i := 254) (by decide +kernel)
theorem sn_0_11 : Cond.not (Cond.eq (zTm 0) (zTm 11)) ∈ lw_fl := List.mem_of_getElem? (i := 272) (by decide +kernel)
theorem sn_0_12 : Cond.not (Cond.eq (zTm 0) (zTm 12)) ∈ lw_fl := List.mem_of_getElem? (i := 293) (by decide +kernel)
theorem sn_0_13 : Cond.not (Cond.eq (zTm 0) (zTm 13)) ∈ lw_fl := List.mem_of_getElem? (i := 315) (by decide +kernel)
theorem sn_0_14 : Cond.not (Cond.eq (zTm 0) (zTm 14)) ∈ lw_fl := List.mem_of_getElem? (i := 335) (by decide +kernel)
theorem sn_0_15 : Cond.not (Cond.eq (zTm 0) (zTm 15)) ∈ lw_fl := List.mem_of_getElem? (i := 358) (by decide +kernel)
theorem sn_0_16 : Cond.not (Cond.eq (zTm 0) (zTm 16)) ∈ lw_fl := List.mem_of_getElem? (i := 381) (by decide +kernel)
theorem sn_0_17 : Cond.not (Cond.eq (zTm 0) (zTm 17)) ∈ lw_fl := List.mem_of_getElem? (i := 404) (by decide +kernel)
theorem sn_0_18 : Cond.not (Cond.eq (zTm 0) (zTm 18)) ∈ lw_fl := List.mem_of_getElem? (i := 427) (by decide +kernel)
theorem sn_0_19 : Cond.not (Cond.eq (zTm 0) (zTm 19)) ∈ lw_fl := List.mem_of_getElem? (i := 452) (by decide +kernel)
theorem sn_1_2 : Cond.not (Cond.eq (zTm 1) (zTm 2)) ∈ lw_fl := List.mem_of_getElem? (i := 136) (by decide +kernel)
theorem sn_1_3 : Cond.not (Cond.eq (zTm 1) (zTm 3)) ∈ lw_fl := List.mem_of_getElem? (i := 148) (by decide +kernel)
theorem sn_1_4 : Cond.not (Cond.eq (zTm 1) (zTm 4)) ∈ lw_fl := List.mem_of_getElem? (i := 160) (by decide +kernel)
theorem sn_1_5 : Cond.not (Cond.eq (zTm 1) (zTm 5)) ∈ lw_fl := List.mem_of_getElem? (i := 172) (by decide +kernel)
theorem sn_1_6 : Cond.not (Cond.eq (zTm 1) (zTm 6)) ∈ lw_fl := List.mem_of_getElem? (i := 188) (by decide +kernel)
theorem sn_1_7 : Cond.not (Cond.eq (zTm 1) (zTm 7)) ∈ lw_fl := List.mem_of_getElem? (i := 205) (by decide +kernel)
theorem sn_1_8 : Cond.not (Cond.eq (zTm 1) (zTm 8)) ∈ lw_fl := List.mem_of_getElem? (i := 220) (by decide +kernel)
theorem sn_1_9 : Cond.not (Cond.eq (zTm 1) (zTm 9)) ∈ lw_fl := List.mem_of_getElem? (i := 238) (by decide +kernel)
theorem sn_1_10 : Cond.not (Cond.eq (zTm 1) (zTm 10)) ∈ lw_fl := List.mem_of_getElem? (i := 255) (by decide +kernel)
theorem sn_1_11 : Cond.not (Cond.eq (zTm 1) (zTm 11)) ∈ lw_fl := List.mem_of_getElem? (i := 273) (by decide +kernel)
theorem sn_1_12 : Cond.not (Cond.eq (zTm 1) (zTm 12)) ∈ lw_fl := List.mem_of_getElem? (i := 294) (by decide +kernel)
theorem sn_1_13 : Cond.not (Cond.eq (zTm 1) (zTm 13)) ∈ lw_fl := List.mem_of_getElem? (i := 316) (by decide +kernel)
theorem sn_1_14 : Cond.not (Cond.eq (zTm 1) (zTm 14)) ∈ lw_fl := List.mem_of_getElem? (i := 336) (by decide +kernel)
theorem sn_1_15 : Cond.not (Cond.eq (zTm 1) (zTm 15)) ∈ lw_fl := List.mem_of_getElem? (i := 359) (by decide +kernel)
theorem sn_1_16 : Cond.not (Cond.eq (zTm 1) (zTm 16)) ∈ lw_fl := List.mem_of_getElem? (i := 382) (by decide +kernel)
theorem sn_1_17 : Cond.not (Cond.eq (zTm 1) (zTm 17)) ∈ lw_fl := List.mem_of_getElem? (i := 405) (by decide +kernel)
theorem sn_1_18 : Cond.not (Cond.eq (zTm 1) (zTm 18)) ∈ lw_fl := List.mem_of_getElem? (i := 428) (by decide +kernel)
theorem sn_1_19 : Cond.not (Cond.eq (zTm 1) (zTm 19)) ∈ lw_fl := List.mem_of_getElem? (i := 453) (by decide +kernel)
theorem sn_2_3 : Cond.not (Cond.eq (zTm 2) (zTm 3)) ∈ lw_fl := List.mem_of_getElem? (i := 149) (by decide +kernel)
theorem sn_2_4 : Cond.not (Cond.eq (zTm 2) (zTm 4)) ∈ lw_fl := List.mem_of_getElem? (i := 161) (by decide +kernel)
theorem sn_2_5 : Cond.not (Cond.eq (zTm 2) (zTm 5)) ∈ lw_fl := List.mem_of_getElem? (i := 173) (by decide +kernel)
theorem sn_2_6 : Cond.not (Cond.eq (zTm 2) (zTm 6)) ∈ lw_fl := List.mem_of_getElem? (i := 189) (by decide +kernel)
theorem sn_2_7 : Cond.not (Cond.eq (zTm 2) (zTm 7)) ∈ lw_fl := List.mem_of_getElem? (i := 206) (by decide +kernel)
theorem sn_2_8 : Cond.not (Cond.eq (zTm 2) (zTm 8)) ∈ lw_fl := List.mem_of_getElem? (i := 221) (by decide +kernel)
theorem sn_2_9 : Cond.not (Cond.eq (zTm 2) (zTm 9)) ∈ lw_fl := List.mem_of_getElem? (i := 239) (by decide +kernel)
theorem sn_2_10 : Cond.not (Cond.eq (zTm 2) (zTm 10)) ∈ lw_fl := List.mem_of_getElem? (i := 256) (by decide +kernel)
theorem sn_2_11 : Cond.not (Cond.eq (zTm 2) (zTm 11)) ∈ lw_fl := List.mem_of_getElem? (i := 274) (by decide +kernel)
theorem sn_2_12 : Cond.not (Cond.eq (zTm 2) (zTm 12)) ∈ lw_fl := List.mem_of_getElem? (i := 295) (by decide +kernel)
theorem sn_2_13 : Cond.not (Cond.eq (zTm 2) (zTm 13)) ∈ lw_fl := List.mem_of_getElem? (i := 317) (by decide +kernel)
theorem sn_2_14 : Cond.not (Cond.eq (zTm 2) (zTm 14)) ∈ lw_fl := List.mem_of_getElem? (i := 337) (by decide +kernel)
theorem sn_2_15 : Cond.not (Cond.eq (zTm 2) (zTm 15)) ∈ lw_fl := List.mem_of_getElem? (i := 360) (by decide +kernel)
theorem sn_2_16 : Cond.not (Cond.eq (zTm 2) (zTm 16)) ∈ lw_fl := List.mem_of_getElem? (i := 383) (by decide +kernel)
theorem sn_2_17 : Cond.not (Cond.eq (zTm 2) (zTm 17)) ∈ lw_fl := List.mem_of_getElem? (i := 406) (by decide +kernel)
theorem sn_2_18 : Cond.not (Cond.eq (zTm 2) (zTm 18)) ∈ lw_fl := List.mem_of_getElem? (i := 429) (by decide +kernel)
theorem sn_2_19 : Cond.not (Cond.eq (zTm 2) (zTm 19)) ∈ lw_fl := List.mem_of_getElem? (i := 454) (by decide +kernel)
theorem sn_3_4 : Cond.not (Cond.eq (zTm 3) (zTm 4)) ∈ lw_fl := List.mem_of_getElem? (i := 162) (by decide +kernel)
theorem sn_3_5 : Cond.not (Cond.eq (zTm 3) (zTm 5)) ∈ lw_fl := List.mem_of_getElem? (i := 174) (by decide +kernel)
theorem sn_3_6 : Cond.not (Cond.eq (zTm 3) (zTm 6)) ∈ lw_fl := List.mem_of_getElem? (i := 190) (by decide +kernel)
theorem sn_3_7 : Cond.not (Cond.eq (zTm 3) (zTm 7)) ∈ lw_fl := List.mem_of_getElem? (i := 207) (by decide +kernel)
theorem sn_3_8 : Cond.not (Cond.eq (zTm 3) (zTm 8)) ∈ lw_fl := List.mem_of_getElem? (i := 222) (by decide +kernel)
theorem sn_3_9 : Cond.not (Cond.eq (zTm 3) (zTm 9)) ∈ lw_fl := List.mem_of_getElem? (i := 240) (by decide +kernel)
theorem sn_3_10 : Cond.not (Cond.eq (zTm 3) (zTm 10)) ∈ lw_fl := List.mem_of_getElem? (i := 257) (by decide +kernel)
theorem sn_3_11 : Cond.not (Cond.eq (zTm 3) (zTm 11)) ∈ lw_fl := List.mem_of_getElem? (i := 275) (by decide +kernel)
theorem sn_3_12 : Cond.not (Cond.eq (zTm 3) (zTm 12)) ∈ lw_fl := List.mem_of_getElem? (i := 296) (by decide +kernel)
theorem sn_3_13 : Cond.not (Cond.eq (zTm 3) (zTm 13)) ∈ lw_fl := List.mem_of_getElem? (i := 318) (by decide +kernel)
theorem sn_3_14 : Cond.not (Cond.eq (zTm 3) (zTm 14)) ∈ lw_fl := List.mem_of_getElem? (i := 338) (by decide +kernel)
theorem sn_3_15 : Cond.not (Cond.eq (zTm 3) (zTm 15)) ∈ lw_fl := List.mem_of_getElem? (i := 361) (by decide +kernel)
theorem sn_3_16 : Cond.not (Cond.eq (zTm 3) (zTm 16)) ∈ lw_fl := List.mem_of_getElem? (i := 384) (by decide +kernel)
theorem sn_3_17 : Cond.not (Cond.eq (zTm 3) (zTm 17)) ∈ lw_fl := List.mem_of_getElem? (i := 407) (by decide +kernel)
theorem sn_3_18 : Cond.not (Cond.eq (zTm 3) (zTm 18)) ∈ lw_fl := List.mem_of_getElem? (i := 430) (by decide +kernel)
theorem sn_3_19 : Cond.not (Cond.eq (zTm 3) (zTm 19)) ∈ lw_fl := List.mem_of_getElem? (i := 455) (by decide +kernel)
theorem sn_4_5 : Cond.not (Cond.eq (zTm 4) (zTm 5)) ∈ lw_fl := List.mem_of_getElem? (i := 175) (by decide +kernel)
theorem sn_4_6 : Cond.not (Cond.eq (zTm 4) (zTm 6)) ∈ lw_fl := List.mem_of_getElem? (i := 191) (by decide +kernel)
theorem sn_4_7 : Cond.not (Cond.eq (zTm 4) (zTm 7)) ∈ lw_fl := List.mem_of_getElem? (i := 208) (by decide +kernel)
theorem sn_4_8 : Cond.not (Cond.eq (zTm 4) (zTm 8)) ∈ lw_fl := List.mem_of_getElem? (i := 223) (by decide +kernel)
theorem sn_4_9 : Cond.not (Cond.eq (zTm 4) (zTm 9)) ∈ lw_fl := List.mem_of_getElem? (i := 241) (by decide +kernel)
theorem sn_4_10 : Cond.not (Cond.eq (zTm 4) (zTm 10)) ∈ lw_fl := List.mem_of_getElem? (i := 258) (by decide +kernel)
theorem sn_4_11 : Cond.not (Cond.eq (zTm 4) (zTm 11)) ∈ lw_fl := List.mem_of_getElem? (i := 276) (by decide +kernel)
theorem sn_4_12 : Cond.not (Cond.eq (zTm 4) (zTm 12)) ∈ lw_fl := List.mem_of_getElem? (i := 297) (by decide +kernel)
theorem sn_4_13 : Cond.not (Cond.eq (zTm 4) (zTm 13)) ∈ lw_fl := List.mem_of_getElem? (i := 319) (by decide +kernel)
theorem sn_4_14 : Cond.not (Cond.eq (zTm 4) (zTm 14)) ∈ lw_fl := List.mem_of_getElem? (i := 339) (by decide +kernel)
theorem sn_4_15 : Cond.not (Cond.eq (zTm 4) (zTm 15)) ∈ lw_fl := List.mem_of_getElem? (i := 362) (by decide +kernel)
theorem sn_4_16 : Cond.not (Cond.eq (zTm 4) (zTm 16)) ∈ lw_fl := List.mem_of_getElem? (i := 385) (by decide +kernel)
theorem sn_4_17 : Cond.not (Cond.eq (zTm 4) (zTm 17)) ∈ lw_fl := List.mem_of_getElem? (i := 408) (by decide +kernel)
theorem sn_4_18 : Cond.not (Cond.eq (zTm 4) (zTm 18)) ∈ lw_fl := List.mem_of_getElem? (i := 431) (by decide +kernel)
theorem sn_4_19 : Cond.not (Cond.eq (zTm 4) (zTm 19)) ∈ lw_fl := List.mem_of_getElem? (i := 456) (by decide +kernel)
theorem sn_5_6 : Cond.not (Cond.eq (zTm 5) (zTm 6)) ∈ lw_fl := List.mem_of_getElem? (i := 192) (by decide +kernel)
theorem sn_5_7 : Cond.not (Cond.eq (zTm 5) (zTm 7)) ∈ lw_fl := List.mem_of_getElem? (i := 209) (by decide +kernel)
theorem sn_5_8 : Cond.not (Cond.eq (zTm 5) (zTm 8)) ∈ lw_fl := List.mem_of_getElem? (i := 224) (by decide +kernel)
theorem sn_5_9 : Cond.not (Cond.eq (zTm 5) (zTm 9)) ∈ lw_fl := List.mem_of_getElem? (i := 242) (by decide +kernel)
theorem sn_5_10 : Cond.not (Cond.eq (zTm 5) (zTm 10)) ∈ lw_fl := List.mem_of_getElem? (i := 259) (by decide +kernel)
theorem sn_5_11 : Cond.not (Cond.eq (zTm 5) (zTm 11)) ∈ lw_fl := List.mem_of_getElem? (i := 277) (by decide +kernel)
theorem sn_5_12 : Cond.not (Cond.eq (zTm 5) (zTm 12)) ∈ lw_fl := List.mem_of_getElem? (i := 298) (by decide +kernel)
theorem sn_5_13 : Cond.not (Cond.eq (zTm 5) (zTm 13)) ∈ lw_fl := List.mem_of_getElem? (i := 320) (by decide +kernel)
theorem sn_5_14 : Cond.not (Cond.eq (zTm 5) (zTm 14)) ∈ lw_fl := List.mem_of_getElem? (i := 340) (by decide +kernel)
theorem sn_5_15 : Cond.not (Cond.eq (zTm 5) (zTm 15)) ∈ lw_fl := List.mem_of_getElem? (i := 363) (by decide +kernel)
theorem sn_5_16 : Cond.not (Cond.eq (zTm 5) (zTm 16)) ∈ lw_fl := List.mem_of_getElem? (i := 386) (by decide +kernel)
theorem sn_5_17 : Cond.not (Cond.eq (zTm 5) (zTm 17)) ∈ lw_fl := List.mem_of_getElem? (i := 409) (by decide +kernel)
theorem sn_5_18 : Cond.not (Cond.eq (zTm 5) (zTm 18)) ∈ lw_fl := List.mem_of_getElem? (i := 432) (by decide +kernel)
theorem sn_5_19 : Cond.not (Cond.eq (zTm 5) (zTm 19)) ∈ lw_fl := List.mem_of_getElem? (i := 457) (by decide +kernel)
theorem sn_6_7 : Cond.not (Cond.eq (zTm 6) (zTm 7)) ∈ lw_fl := List.mem_of_getElem? (i := 210) (by decide +kernel)
theorem sn_6_8 : Cond.not (Cond.eq (zTm 6) (zTm 8)) ∈ lw_fl := List.mem_of_getElem? (i := 225) (by decide +kernel)
theorem sn_6_9 : Cond.not (Cond.eq (zTm 6) (zTm 9)) ∈ lw_fl := List.mem_of_getElem? (i := 243) (by decide +kernel)
theorem sn_6_10 : Cond.not (Cond.eq (zTm 6) (zTm 10)) ∈ lw_fl := List.mem_of_getElem? (i := 260) (by decide +kernel)
theorem sn_6_11 : Cond.not (Cond.eq (zTm 6) (zTm 11)) ∈ lw_fl := List.mem_of_getElem? (i := 278) (by decide +kernel)
theorem sn_6_12 : Cond.not (Cond.eq (zTm 6) (zTm 12)) ∈ lw_fl := List.mem_of_getElem? (i := 299) (by decide +kernel)
theorem sn_6_13 : Cond.not (Cond.eq (zTm 6) (zTm 13)) ∈ lw_fl := List.mem_of_getElem? (i := 321) (by decide +kernel)
theorem sn_6_14 : Cond.not (Cond.eq (zTm 6) (zTm 14)) ∈ lw_fl := List.mem_of_getElem? (i := 341) (by decide +kernel)
theorem sn_6_15 : Cond.not (Cond.eq (zTm 6) (zTm 15)) ∈ lw_fl := List.mem_of_getElem? (i := 364) (by decide +kernel)
theorem sn_6_16 : Cond.not (Cond.eq (zTm 6) (zTm 16)) ∈ lw_fl := List.mem_of_getElem? (i := 387) (by decide +kernel)
theorem sn_6_17 : Cond.not (Cond.eq (zTm 6) (zTm 17)) ∈ lw_fl := List.mem_of_getElem? (i := 410) (by decide +kernel)
theorem sn_6_18 : Cond.not (Cond.eq (zTm 6) (zTm 18)) ∈ lw_fl := List.mem_of_getElem? (i := 433) (by decide +kernel)
theorem sn_6_19 : Cond.not (Cond.eq (zTm 6) (zTm 19)) ∈ lw_fl := List.mem_of_getElem? (i := 458) (by decide +kernel)
theorem sn_7_8 : Cond.not (Cond.eq (zTm 7) (zTm 8)) ∈ lw_fl := List.mem_of_getElem? (i := 226) (by decide +kernel)
theorem sn_7_9 : Cond.not (Cond.eq (zTm 7) (zTm 9)) ∈ lw_fl := List.mem_of_getElem? (i := 244) (by decide +kernel)
theorem sn_7_10 : Cond.not (Cond.eq (zTm 7) (zTm 10)) ∈ lw_fl := List.mem_of_getElem? (i := 261) (by decide +kernel)
theorem sn_7_11 : Cond.not (Cond.eq (zTm 7) (zTm 11)) ∈ lw_fl := List.mem_of_getElem? (i := 279) (by decide +kernel)
theorem sn_7_12 : Cond.not (Cond.eq (zTm 7) (zTm 12)) ∈ lw_fl := List.mem_of_getElem? (i := 300) (by decide +kernel)
theorem sn_7_13 : Cond.not (Cond.eq (zTm 7) (zTm 13)) ∈ lw_fl := List.mem_of_getElem? (i := 322) (by decide +kernel)
theorem sn_7_14 : Cond.not (Cond.eq (zTm 7) (zTm 14)) ∈ lw_fl := List.mem_of_getElem? (i := 342) (by decide +kernel)
theorem sn_7_15 : Cond.not (Cond.eq (zTm 7) (zTm 15)) ∈ lw_fl := List.mem_of_getElem? (i := 365) (by decide +kernel)
theorem sn_7_16 : Cond.not (Cond.eq (zTm 7) (zTm 16)) ∈ lw_fl := List.mem_of_getElem? (i := 388) (by decide +kernel)
theorem sn_7_17 : Cond.not (Cond.eq (zTm 7) (zTm 17)) ∈ lw_fl := List.mem_of_getElem? (i := 411) (by decide +kernel)
theorem sn_7_18 : Cond.not (Cond.eq (zTm 7) (zTm 18)) ∈ lw_fl := List.mem_of_getElem? (i := 434) (by decide +kernel)
theorem sn_7_19 : Cond.not (Cond.eq (zTm 7) (zTm 19)) ∈ lw_fl := List.mem_of_getElem? (i := 459) (by decide +kernel)
theorem sn_8_9 : Cond.not (Cond.eq (zTm 8) (zTm 9)) ∈ lw_fl := List.mem_of_getElem? (i := 245) (by decide +kernel)
theorem sn_8_10 : Cond.not (Cond.eq (zTm 8) (zTm 10)) ∈ lw_fl := List.mem_of_getElem? (i := 262) (by decide +kernel)
theorem sn_8_11 : Cond.not (Cond.eq (zTm 8) (zTm 11)) ∈ lw_fl := List.mem_of_getElem? (i := 280) (by decide +kernel)
theorem sn_8_12 : Cond.not (Cond.eq (zTm 8) (zTm 12)) ∈ lw_fl := List.mem_of_getElem? (i := 301) (by decide +kernel)
theorem sn_8_13 : Cond.not (Cond.eq (zTm 8) (zTm 13)) ∈ lw_fl := List.mem_of_getElem? (i := 323) (by decide +kernel)
theorem sn_8_14 : Cond.not (Cond.eq (zTm 8) (zTm 14)) ∈ lw_fl := List.mem_of_getElem? (i := 343) (by decide +kernel)
theorem sn_8_15 : Cond.not (Cond.eq (zTm 8) (zTm 15)) ∈ lw_fl := List.mem_of_getElem? (i := 366) (by decide +kernel)
theorem sn_8_16 : Cond.not (Cond.eq (zTm 8) (zTm 16)) ∈ lw_fl := List.mem_of_getElem? (i := 389) (by decide +kernel)
theorem sn_8_17 : Cond.not (Cond.eq (zTm 8) (zTm 17)) ∈ lw_fl := List.mem_of_getElem? (i := 412) (by decide +kernel)
theorem sn_8_18 : Cond.not (Cond.eq (zTm 8) (zTm 18)) ∈ lw_fl := List.mem_of_getElem? (i := 435) (by decide +kernel)
theorem sn_8_19 : Cond.not (Cond.eq (zTm 8) (zTm 19)) ∈ lw_fl := List.mem_of_getElem? (i := 460) (by decide +kernel)
theorem sn_9_10 : Cond.not (Cond.eq (zTm 9) (zTm 10)) ∈ lw_fl := List.mem_of_getElem? (i := 263) (by decide +kernel)
theorem sn_9_11 : Cond.not (Cond.eq (zTm 9) (zTm 11)) ∈ lw_fl := List.mem_of_getElem? (i := 281) (by decide +kernel)
theorem sn_9_12 : Cond.not (Cond.eq (zTm 9) (zTm 12)) ∈ lw_fl := List.mem_of_getElem? (i := 302) (by decide +kernel)
theorem sn_9_13 : Cond.not (Cond.eq (zTm 9) (zTm 13)) ∈ lw_fl := List.mem_of_getElem? (i := 324) (by decide +kernel)
theorem sn_9_14 : Cond.not (Cond.eq (zTm 9) (zTm 14)) ∈ lw_fl := List.mem_of_getElem? (i := 344) (by decide +kernel)
theorem sn_9_15 : Cond.not (Cond.eq (zTm 9) (zTm 15)) ∈ lw_fl := List.mem_of_getElem? (i := 367) (by decide +kernel)
theorem sn_9_16 : Cond.not (Cond.eq (zTm 9) (zTm 16)) ∈ lw_fl := List.mem_of_getElem? (i := 390) (by decide +kernel)
theorem sn_9_17 : Cond.not (Cond.eq (zTm 9) (zTm 17)) ∈ lw_fl := List.mem_of_getElem? (i := 413) (by decide +kernel)
theorem sn_9_18 : Cond.not (Cond.eq (zTm 9) (zTm 18)) ∈ lw_fl := List.mem_of_getElem? (i := 436) (by decide +kernel)
theorem sn_9_19 : Cond.not (Cond.eq (zTm 9) (zTm 19)) ∈ lw_fl := List.mem_of_getElem? (i := 461) (by decide +kernel)
theorem sn_10_11 : Cond.not (Cond.eq (zTm 10) (zTm 11)) ∈ lw_fl := List.mem_of_getElem? (i := 282) (by decide +kernel)
theorem sn_10_12 : Cond.not (Cond.eq (zTm 10) (zTm 12)) ∈ lw_fl := List.mem_of_getElem? (i := 303) (by decide +kernel)
theorem sn_10_13 : Cond.not (Cond.eq (zTm 10) (zTm 13)) ∈ lw_fl := List.mem_of_getElem? (i := 325) (by decide +kernel)
theorem sn_10_14 : Cond.not (Cond.eq (zTm 10) (zTm 14)) ∈ lw_fl := List.mem_of_getElem? (i := 345) (by decide +kernel)
theorem sn_10_15 : Cond.not (Cond.eq (zTm 10) (zTm 15)) ∈ lw_fl := List.mem_of_getElem? (i := 368) (by decide +kernel)
theorem sn_10_16 : Cond.not (Cond.eq (zTm 10) (zTm 16)) ∈ lw_fl := List.mem_of_getElem? (i := 391) (by decide +kernel)
theorem sn_10_17 : Cond.not (Cond.eq (zTm 10) (zTm 17)) ∈ lw_fl := List.mem_of_getElem? (i := 414) (by decide +kernel)
theorem sn_10_18 : Cond.not (Cond.eq (zTm 10) (zTm 18)) ∈ lw_fl := List.mem_of_getElem? (i := 437) (by decide +kernel)
theorem sn_10_19 : Cond.not (Cond.eq (zTm 10) (zTm 19)) ∈ lw_fl := List.mem_of_getElem? (i := 462) (by decide +kernel)
theorem sn_11_12 : Cond.not (Cond.eq (zTm 11) (zTm 12)) ∈ lw_fl := List.mem_of_getElem? (i := 304) (by decide +kernel)
theorem sn_11_13 : Cond.not (Cond.eq (zTm 11) (zTm 13)) ∈ lw_fl := List.mem_of_getElem? (i := 326) (by decide +kernel)
theorem sn_11_14 : Cond.not (Cond.eq (zTm 11) (zTm 14)) ∈ lw_fl := List.mem_of_getElem? (i := 346) (by decide +kernel)
theorem sn_11_15 : Cond.not (Cond.eq (zTm 11) (zTm 15)) ∈ lw_fl := List.mem_of_getElem? (i := 369) (by decide +kernel)
theorem sn_11_16 : Cond.not (Cond.eq (zTm 11) (zTm 16)) ∈ lw_fl := List.mem_of_getElem? (i := 392) (by decide +kernel)
theorem sn_11_17 : Cond.not (Cond.eq (zTm 11) (zTm 17)) ∈ lw_fl := List.mem_of_getElem? (i := 415) (by decide +kernel)
theorem sn_11_18 : Cond.not (Cond.eq (zTm 11) (zTm 18)) ∈ lw_fl := List.mem_of_getElem? (i := 438) (by decide +kernel)
theorem sn_11_19 : Cond.not (Cond.eq (zTm 11) (zTm 19)) ∈ lw_fl := List.mem_of_getElem? (i := 463) (by decide +kernel)
theorem sn_12_13 : Cond.not (Cond.eq (zTm 12) (zTm 13)) ∈ lw_fl := List.mem_of_getElem? (i := 327) (by decide +kernel)
theorem sn_12_14 : Cond.not (Cond.eq (zTm 12) (zTm 14)) ∈ lw_fl := List.mem_of_getElem? (i := 347) (by decide +kernel)
theorem sn_12_15 : Cond.not (Cond.eq (zTm 12) (zTm 15)) ∈ lw_fl := List.mem_of_getElem? (i := 370) (by decide +kernel)
theorem sn_12_16 : Cond.not (Cond.eq (zTm 12) (zTm 16)) ∈ lw_fl := List.mem_of_getElem? (i := 393) (by decide +kernel)
theorem sn_12_17 : Cond.not (Cond.eq (zTm 12) (zTm 17)) ∈ lw_fl := List.mem_of_getElem? (i := 416) (by decide +kernel)
theorem sn_12_18 : Cond.not (Cond.eq (zTm 12) (zTm 18)) ∈ lw_fl := List.mem_of_getElem? (i := 439) (by decide +kernel)
theorem sn_12_19 : Cond.not (Cond.eq (zTm 12) (zTm 19)) ∈ lw_fl := List.mem_of_getElem? (i := 464) (by decide +kernel)
theorem sn_13_14 : Cond.not (Cond.eq (zTm 13) (zTm 14)) ∈ lw_fl := List.mem_of_getElem? (i := 348) (by decide +kernel)
theorem sn_13_15 : Cond.not (Cond.eq (zTm 13) (zTm 15)) ∈ lw_fl := List.mem_of_getElem? (i := 371) (by decide +kernel)
theorem sn_13_16 : Cond.not (Cond.eq (zTm 13) (zTm 16)) ∈ lw_fl := List.mem_of_getElem? (i := 394) (by decide +kernel)
theorem sn_13_17 : Cond.not (Cond.eq (zTm 13) (zTm 17)) ∈ lw_fl := List.mem_of_getElem? (i := 417) (by decide +kernel)
theorem sn_13_18 : Cond.not (Cond.eq (zTm 13) (zTm 18)) ∈ lw_fl := List.mem_of_getElem? (i := 440) (by decide +kernel)
theorem sn_13_19 : Cond.not (Cond.eq (zTm 13) (zTm 19)) ∈ lw_fl := List.mem_of_getElem? (i := 465) (by decide +kernel)
theorem sn_14_15 : Cond.not (Cond.eq (zTm 14) (zTm 15)) ∈ lw_fl := List.mem_of_getElem? (i := 372) (by decide +kernel)
theorem sn_14_16 : Cond.not (Cond.eq (zTm 14) (zTm 16)) ∈ lw_fl := List.mem_of_getElem? (i := 395) (by decide +kernel)
theorem sn_14_17 : Cond.not (Cond.eq (zTm 14) (zTm 17)) ∈ lw_fl := List.mem_of_getElem? (i := 418) (by decide +kernel)
theorem sn_14_18 : Cond.not (Cond.eq (zTm 14) (zTm 18)) ∈ lw_fl := List.mem_of_getElem? (i := 441) (by decide +kernel)
theorem sn_14_19 : Cond.not (Cond.eq (zTm 14) (zTm 19)) ∈ lw_fl := List.mem_of_getElem? (i := 466) (by decide +kernel)
theorem sn_15_16 : Cond.not (Cond.eq (zTm 15) (zTm 16)) ∈ lw_fl := List.mem_of_getElem? (i := 396) (by decide +kernel)
theorem sn_15_17 : Cond.not (Cond.eq (zTm 15) (zTm 17)) ∈ lw_fl := List.mem_of_getElem? (i := 419) (by decide +kernel)
theorem sn_15_18 : Cond.not (Cond.eq (zTm 15) (zTm 18)) ∈ lw_fl := List.mem_of_getElem? (i := 442) (by decide +kernel)
theorem sn_15_19 : Cond.not (Cond.eq (zTm 15) (zTm 19)) ∈ lw_fl := List.mem_of_getElem? (i := 467) (by decide +kernel)
theorem sn_16_17 : Cond.not (Cond.eq (zTm 16) (zTm 17)) ∈ lw_fl := List.mem_of_getElem? (i := 420) (by decide +kernel)
theorem sn_16_18 : Cond.not (Cond.eq (zTm 16) (zTm 18)) ∈ lw_fl := List.mem_of_getElem? (i := 443) (by decide +kernel)
theorem sn_16_19 : Cond.not (Cond.eq (zTm 16) (zTm 19)) ∈ lw_fl := List.mem_of_getElem? (i := 468) (by decide +kernel)
theorem sn_17_18 : Cond.not (Cond.eq (zTm 17) (zTm 18)) ∈ lw_fl := List.mem_of_getElem? (i := 444) (by decide +kernel)
theorem sn_17_19 : Cond.not (Cond.eq (zTm 17) (zTm 19)) ∈ lw_fl := List.mem_of_getElem? (i := 469) (by decide +kernel)
theorem sn_18_19 : Cond.not (Cond.eq (zTm 18) (zTm 19)) ∈ lw_fl := List.mem_of_getElem? (i := 470) (by decide +kernel)
theorem sn_0 : ∀ j, j < 20 → ¬ 0 = j → Cond.not (Cond.eq (zTm 0) (zTm j)) ∈ lw_fl ∨ Cond.not (Cond.eq (zTm j) (zTm 0)) ∈ lw_fl := fun j hj hij => by
  match j, hj, hij with
  | 0, _, h => exact absurd rfl h
  | 1, _, _ => exact Or.inl sn_0_1
  | 2, _, _ => exact Or.inl sn_0_2
  | 3, _, _ => exact Or.inl sn_0_3
  | 4, _, _ => exact Or.inl sn_0_4
  | 5, _, _ => exact Or.inl sn_0_5
  | 6, _, _ => exact Or.inl sn_0_6
  | 7, _, _ => exact Or.inl sn_0_7
  | 8, _, _ => exact Or.inl sn_0_8
  | 9, _, _ => exact Or.inl sn_0_9
  | 10, _, _ => exact Or.inl sn_0_10
  | 11, _, _ => exact Or.inl sn_0_11
  | 12, _, _ => exact Or.inl sn_0_12
  | 13, _, _ => exact Or.inl sn_0_13
  | 14, _, _ => exact Or.inl sn_0_14
  | 15, _, _ => exact Or.inl sn_0_15
  | 16, _, _ => exact Or.inl sn_0_16
  | 17, _, _ => exact Or.inl sn_0_17
  | 18, _, _ => exact Or.inl sn_0_18
  | 19, _, _ => exact Or.inl sn_0_19
  | j + 20, h, _ => exact absurd h (by omega)
theorem sn_1 : ∀ j, j < 20 → ¬ 1 = j → Cond.not (Cond.eq (zTm 1) (zTm j)) ∈ lw_fl ∨ Cond.not (Cond.eq (zTm j) (zTm 1)) ∈ lw_fl := fun j hj hij => by
  match j, hj, hij with
  | 0, _, _ => exact Or.inr sn_0_1
  | 1, _, h => exact absurd rfl h
  | 2, _, _ => exact Or.inl sn_1_2
  | 3, _, _ => exact Or.inl sn_1_3
  | 4, _, _ => exact Or.inl sn_1_4
  | 5, _, _ => exact Or.inl sn_1_5
  | 6, _, _ => exact Or.inl sn_1_6
  | 7, _, _ => exact Or.inl sn_1_7
  | 8, _, _ => exact Or.inl sn_1_8
  | 9, _, _ => exact Or.inl sn_1_9
  | 10, _, _ => exact Or.inl sn_1_10
  | 11, _, _ => exact Or.inl sn_1_11
  | 12, _, _ => exact Or.inl sn_1_12
  | 13, _, _ => exact Or.inl sn_1_13
  | 14, _, _ => exact Or.inl sn_1_14
  | 15, _, _ => exact Or.inl sn_1_15
  | 16, _, _ => exact Or.inl sn_1_16
  | 17, _, _ => exact Or.inl sn_1_17
  | 18, _, _ => exact Or.inl sn_1_18
  | 19, _, _ => exact Or.inl sn_1_19
  | j + 20, h, _ => exact absurd h (by omega)
theorem sn_2 : ∀ j, j < 20 → ¬ 2 = j → Cond.not (Cond.eq (zTm 2) (zTm j)) ∈ lw_fl ∨ Cond.not (Cond.eq (zTm j) (zTm 2)) ∈ lw_fl := fun j hj hij => by
  match j, hj, hij with
  | 0, _, _ => exact Or.inr sn_0_2
  | 1, _, _ => exact Or.inr sn_1_2
  | 2, _, h => exact absurd rfl h
  | 3, _, _ => exact Or.inl sn_2_3
  | 4, _, _ => exact Or.inl sn_2_4
  | 5, _, _ => exact Or.inl sn_2_5
  | 6, _, _ => exact Or.inl sn_2_6
  | 7, _, _ => exact Or.inl sn_2_7
  | 8, _, _ => exact Or.inl sn_2_8
  | 9, _, _ => exact Or.inl sn_2_9
  | 10, _, _ => exact Or.inl sn_2_10
  | 11, _, _ => exact Or.inl sn_2_11
  | 12, _, _ => exact Or.inl sn_2_12
  | 13, _, _ => exact Or.inl sn_2_13
  | 14, _, _ => exact Or.inl sn_2_14
  | 15, _, _ => exact Or.inl sn_2_15
  | 16, _, _ => exact Or.inl sn_2_16
  | 17, _, _ => exact Or.inl sn_2_17
  | 18, _, _ => exact Or.inl sn_2_18
  | 19, _, _ => exact Or.inl sn_2_19
  | j + 20, h, _ => exact absurd h (by omega)
theorem sn_3 : ∀ j, j < 20 → ¬ 3 = j → Cond.not (Cond.eq (zTm 3) (zTm j)) ∈ lw_fl ∨ Cond.not (Cond.eq (zTm j) (zTm 3)) ∈ lw_fl := fun j hj hij => by
  match j, hj, hij with
  | 0, _, _ => exact Or.inr sn_0_3
  | 1, _, _ => exact Or.inr sn_1_3
  | 2, _, _ => exact Or.inr sn_2_3
  | 3, _, h => exact absurd rfl h
  | 4, _, _ => exact Or.inl sn_3_4
  | 5, _, _ => exact Or.inl sn_3_5
  | 6, _, _ => exact Or.inl sn_3_6
  | 7, _, _ => exact Or.inl sn_3_7
  | 8, _, _ => exact Or.inl sn_3_8
  | 9, _, _ => exact Or.inl sn_3_9
  | 10, _, _ => exact Or.inl sn_3_10
  | 11, _, _ => exact Or.inl sn_3_11
  | 12, _, _ => exact Or.inl sn_3_12
  | 13, _, _ => exact Or.inl sn_3_13
  | 14, _, _ => exact Or.inl sn_3_14
  | 15, _, _ => exact Or.inl sn_3_15
  | 16, _, _ => exact Or.inl sn_3_16
  | 17, _, _ => exact Or.inl sn_3_17
  | 18, _, _ => exact Or.inl sn_3_18
  | 19, _, _ => exact Or.inl sn_3_19
  | j + 20, h, _ => exact absurd h (by omega)
theorem sn_4 : ∀ j, j < 20 → ¬ 4 = j → Cond.not (Cond.eq (zTm 4) (zTm j)) ∈ lw_fl ∨ Cond.not (Cond.eq (zTm j) (zTm 4)) ∈ lw_fl := fun j hj hij => by
  match j, hj, hij with
  | 0, _, _ => exact Or.inr sn_0_4
  | 1, _, _ => exact Or.inr sn_1_4
  | 2, _, _ => exact Or.inr sn_2_4
  | 3, _, _ => exact Or.inr sn_3_4
  | 4, _, h => exact absurd rfl h
  | 5, _, _ => exact Or.inl sn_4_5
  | 6, _, _ => exact Or.inl sn_4_6
  | 7, _, _ => exact Or.inl sn_4_7
  | 8, _, _ => exact Or.inl sn_4_8
  | 9, _, _ => exact Or.inl sn_4_9
  | 10, _, _ => exact Or.inl sn_4_10
  | 11, _, _ => exact Or.inl sn_4_11
  | 12, _, _ => exact Or.inl sn_4_12
  | 13, _, _ => exact Or.inl sn_4_13
  | 14, _, _ => exact Or.inl sn_4_14
  | 15, _, _ => exact Or.inl sn_4_15
  | 16, _, _ => exact Or.inl sn_4_16
  | 17, _, _ => exact Or.inl sn_4_17
  | 18, _, _ => exact Or.inl sn_4_18
  | 19, _, _ => exact Or.inl sn_4_19
  | j + 20, h, _ => exact absurd h (by omega)
theorem sn_5 : ∀ j, j < 20 → ¬ 5 = j → Cond.not (Cond.eq (zTm 5) (zTm j)) ∈ lw_fl ∨ Cond.not (Cond.eq (zTm j) (zTm 5)) ∈ lw_fl := fun j hj hij => by
  match j, hj, hij with
  | 0, _, _ => exact Or.inr sn_0_5
  | 1, _, _ => exact Or.inr sn_1_5
  | 2, _, _ => exact Or.inr sn_2_5
  | 3, _, _ => exact Or.inr sn_3_5
  | 4, _, _ => exact Or.inr sn_4_5
  | 5, _, h => exact absurd rfl h
  | 6, _, _ => exact Or.inl sn_5_6
  | 7, _, _ => exact Or.inl sn_5_7
  | 8, _, _ => exact Or.inl sn_5_8
  | 9, _, _ => exact Or.inl sn_5_9
  | 10, _, _ => exact Or.inl sn_5_10
  | 11, _, _ => exact Or.inl sn_5_11
  | 12, _, _ => exact Or.inl sn_5_12
  | 13, _, _ => exact Or.inl sn_5_13
  | 14, _, _ => exact Or.inl sn_5_14
  | 15, _, _ => exact Or.inl sn_5_15
  | 16, _, _ => exact Or.inl sn_5_16
  | 17, _, _ => exact Or.inl sn_5_17
  | 18, _, _ => exact Or.inl sn_5_18
  | 19, _, _ => exact Or.inl sn_5_19
  | j + 20, h, _ => exact absurd h (by omega)
theorem sn_6 : ∀ j, j < 20 → ¬ 6 = j → Cond.not (Cond.eq (zTm 6) (zTm j)) ∈ lw_fl ∨ Cond.not (Cond.eq (zTm j) (zTm 6)) ∈ lw_fl := fun j hj hij => by
  match j, hj, hij with
  | 0, _, _ => exact Or.inr sn_0_6
  | 1, _, _ => exact Or.inr sn_1_6
  | 2, _, _ => exact Or.inr sn_2_6
  | 3, _, _ => exact Or.inr sn_3_6
  | 4, _, _ => exact Or.inr sn_4_6
  | 5, _, _ => exact Or.inr sn_5_6
  | 6, _, h => exact absurd rfl h
  | 7, _, _ => exact Or.inl sn_6_7
  | 8, _, _ => exact Or.inl sn_6_8
  | 9, _, _ => exact Or.inl sn_6_9
  | 10, _, _ => exact Or.inl sn_6_10
  | 11, _, _ => exact Or.inl sn_6_11
  | 12, _, _ => exact Or.inl sn_6_12
  | 13, _, _ => exact Or.inl sn_6_13
  | 14, _, _ => exact Or.inl sn_6_14
  | 15, _, _ => exact Or.inl sn_6_15
  | 16, _, _ => exact Or.inl sn_6_16
  | 17, _, _ => exact Or.inl sn_6_17
  | 18, _, _ => exact Or.inl sn_6_18
  | 19, _, _ => exact Or.inl sn_6_19
  | j + 20, h, _ => exact absurd h (by omega)
theorem sn_7 : ∀ j, j < 20 → ¬ 7 = j → Cond.not (Cond.eq (zTm 7) (zTm j)) ∈ lw_fl ∨ Cond.not (Cond.eq (zTm j) (zTm 7)) ∈ lw_fl := fun j hj hij => by
  match j, hj, hij with
  | 0, _, _ => exact Or.inr sn_0_7
  | 1, _, _ => exact Or.inr sn_1_7
  | 2, _, _ => exact Or.inr sn_2_7
  | 3, _, _ => exact Or.inr sn_3_7
  | 4, _, _ => exact Or.inr sn_4_7
  | 5, _, _ => exact Or.inr sn_5_7
  | 6, _, _ => exact Or.inr sn_6_7
  | 7, _, h => exact absurd rfl h
  | 8, _, _ => exact Or.inl sn_7_8
  | 9, _, _ => exact Or.inl sn_7_9
  | 10, _, _ => exact Or.inl sn_7_10
  | 11, _, _ => exact Or.inl sn_7_11
  | 12, _, _ => exact Or.inl sn_7_12
  | 13, _, _ => exact Or.inl sn_7_13
  | 14, _, _ => exact Or.inl sn_7_14
  | 15, _, _ => exact Or.inl sn_7_15
  | 16, _, _ => exact Or.inl sn_7_16
  | 17, _, _ => exact Or.inl sn_7_17
  | 18, _, _ => exact Or.inl sn_7_18
  | 19, _, _ => exact Or.inl sn_7_19
  | j + 20, h, _ => exact absurd h (by omega)
theorem sn_8 : ∀ j, j < 20 → ¬ 8 = j → Cond.not (Cond.eq (zTm 8) (zTm j)) ∈ lw_fl ∨ Cond.not (Cond.eq (zTm j) (zTm 8)) ∈ lw_fl := fun j hj hij => by
  match j, hj, hij with
  | 0, _, _ => exact Or.inr sn_0_8
  | 1, _, _ => exact Or.inr sn_1_8
  | 2, _, _ => exact Or.inr sn_2_8
  | 3, _, _ => exact Or.inr sn_3_8
  | 4, _, _ => exact Or.inr sn_4_8
  | 5, _, _ => exact Or.inr sn_5_8
  | 6, _, _ => exact Or.inr sn_6_8
  | 7, _, _ => exact Or.inr sn_7_8
  | 8, _, h => exact absurd rfl h
  | 9, _, _ => exact Or.inl sn_8_9
  | 10, _, _ => exact Or.inl sn_8_10
  | 11, _, _ => exact Or.inl sn_8_11
  | 12, _, _ => exact Or.inl sn_8_12
  | 13, _, _ => exact Or.inl sn_8_13
  | 14, _, _ => exact Or.inl sn_8_14
  | 15, _, _ => exact Or.inl sn_8_15
  | 16, _, _ => exact Or.inl sn_8_16
  | 17, _, _ => exact Or.inl sn_8_17
  | 18, _, _ => exact Or.inl sn_8_18
  | 19, _, _ => exact Or.inl sn_8_19
  | j + 20, h, _ => exact absurd h (by omega)
theorem sn_9 : ∀ j, j < 20 → ¬ 9 = j → Cond.not (Cond.eq (zTm 9) (zTm j)) ∈ lw_fl ∨ Cond.not (Cond.eq (zTm j) (zTm 9)) ∈ lw_fl := fun j hj hij => by
  match j, hj, hij with
  | 0, _, _ => exact Or.inr sn_0_9
  | 1, _, _ => exact Or.inr sn_1_9
  | 2, _, _ => exact Or.inr sn_2_9
  | 3, _, _ => exact Or.inr sn_3_9
  | 4, _, _ => exact Or.inr sn_4_9
  | 5, _, _ => exact Or.inr sn_5_9
  | 6, _, _ => exact Or.inr sn_6_9
  | 7, _, _ => exact Or.inr sn_7_9
  | 8, _, _ => exact Or.inr sn_8_9
  | 9, _, h => exact absurd rfl h
  | 10, _, _ => exact Or.inl sn_9_10
  | 11, _, _ => exact Or.inl sn_9_11
  | 12, _, _ => exact Or.inl sn_9_12
  | 13, _, _ => exact Or.inl sn_9_13
  | 14, _, _ => exact Or.inl sn_9_14
  | 15, _, _ => exact Or.inl sn_9_15
  | 16, _, _ => exact Or.inl sn_9_16
  | 17, _, _ => exact Or.inl sn_9_17
  | 18, _, _ => exact Or.inl sn_9_18
  | 19, _, _ => exact Or.inl sn_9_19
  | j + 20, h, _ => exact absurd h (by omega)
theorem sn_10 : ∀ j, j < 20 → ¬ 10 = j → Cond.not (Cond.eq (zTm 10) (zTm j)) ∈ lw_fl ∨ Cond.not (Cond.eq (zTm j) (zTm 10)) ∈ lw_fl := fun j hj hij => by
  match j, hj, hij with
  | 0, _, _ => exact Or.inr sn_0_10
  | 1, _, _ => exact Or.inr sn_1_10
  | 2, _, _ => exact Or.inr sn_2_10
  | 3, _, _ => exact Or.inr sn_3_10
  | 4, _, _ => exact Or.inr sn_4_10
  | 5, _, _ => exact Or.inr sn_5_10
  | 6, _, _ => exact Or.inr sn_6_10
  | 7, _, _ => exact Or.inr sn_7_10
  | 8, _, _ => exact Or.inr sn_8_10
  | 9, _, _ => exact Or.inr sn_9_10
  | 10, _, h => exact absurd rfl h
  | 11, _, _ => exact Or.inl sn_10_11
  | 12, _, _ => exact Or.inl sn_10_12
  | 13, _, _ => exact Or.inl sn_10_13
  | 14, _, _ => exact Or.inl sn_10_14
  | 15, _, _ => exact Or.inl sn_10_15
  | 16, _, _ => exact Or.inl sn_10_16
  | 17, _, _ => exact Or.inl sn_10_17
  | 18, _, _ => exact Or.inl sn_10_18
  | 19, _, _ => exact Or.inl sn_10_19
  | j + 20, h, _ => exact absurd h (by omega)
theorem sn_11 : ∀ j, j < 20 → ¬ 11 = j → Cond.not (Cond.eq (zTm 11) (zTm j)) ∈ lw_fl ∨ Cond.not (Cond.eq (zTm j) (zTm 11)) ∈ lw_fl := fun j hj hij => by
  match j, hj, hij with
  | 0, _, _ => exact Or.inr sn_0_11
  | 1, _, _ => exact Or.inr sn_1_11
  | 2, _, _ => exact Or.inr sn_2_11
  | 3, _, _ => exact Or.inr sn_3_11
  | 4, _, _ => exact Or.inr sn_4_11
  | 5, _, _ => exact Or.inr sn_5_11
  | 6, _, _ => exact Or.inr sn_6_11
  | 7, _, _ => exact Or.inr sn_7_11
  | 8, _, _ => exact Or.inr sn_8_11
  | 9, _, _ => exact Or.inr sn_9_11
  | 10, _, _ => exact Or.inr sn_10_11
  | 11, _, h => exact absurd rfl h
  | 12, _, _ => exact Or.inl sn_11_12
  | 13, _, _ => exact Or.inl sn_11_13
  | 14, _, _ => exact Or.inl sn_11_14
  | 15, _, _ => exact Or.inl sn_11_15
  | 16, _, _ => exact Or.inl sn_11_16
  | 17, _, _ => exact Or.inl sn_11_17
  | 18, _, _ => exact Or.inl sn_11_18
  | 19, _, _ => exact Or.inl sn_11_19
  | j + 20, h, _ => exact absurd h (by omega)
theorem sn_12 : ∀ j, j < 20 → ¬ 12 = j → Cond.not (Cond.eq (zTm 12) (zTm j)) ∈ lw_fl ∨ Cond.not (Cond.eq (zTm j) (zTm 12)) ∈ lw_fl := fun j hj hij => by
  match j, hj, hij with
  | 0, _, _ => exact Or.inr sn_0_12
  | 1, _, _ => exact Or.inr sn_1_12
  | 2, _, _ => exact Or.inr sn_2_12
  | 3, _, _ => exact Or.inr sn_3_12
  | 4, _, _ => exact Or.inr sn_4_12
  | 5, _, _ => exact Or.inr sn_5_12
  | 6, _, _ => exact Or.inr sn_6_12
  | 7, _, _ => exact Or.inr sn_7_12
  | 8, _, _ => exact Or.inr sn_8_12
  | 9, _, _ => exact Or.inr sn_9_12
  | 10, _, _ => exact Or.inr sn_10_12
  | 11, _, _ => exact Or.inr sn_11_12
  | 12, _, h => exact absurd rfl h
  | 13, _, _ => exact Or.inl sn_12_13
  | 14, _, _ => exact Or.inl sn_12_14
  | 15, _, _ => exact Or.inl sn_12_15
  | 16, _, _ => exact Or.inl sn_12_16
  | 17, _, _ => exact Or.inl sn_12_17
  | 18, _, _ => exact Or.inl sn_12_18
  | 19, _, _ => exact Or.inl sn_12_19
  | j + 20, h, _ => exact absurd h (by omega)
theorem sn_13 : ∀ j, j < 20 → ¬ 13 = j → Cond.not (Cond.eq (zTm 13) (zTm j)) ∈ lw_fl ∨ Cond.not (Cond.eq (zTm j) (zTm 13)) ∈ lw_fl := fun j hj hij => by
  match j, hj, hij with
  | 0, _, _ => exact Or.inr sn_0_13
  | 1, _, _ => exact Or.inr sn_1_13
  | 2, _, _ => exact Or.inr sn_2_13
  | 3, _, _ => exact Or.inr sn_3_13
  | 4, _, _ => exact Or.inr sn_4_13
  | 5, _, _ => exact Or.inr sn_5_13
  | 6, _, _ => exact Or.inr sn_6_13
  | 7, _, _ => exact Or.inr sn_7_13
  | 8, _, _ => exact Or.inr sn_8_13
  | 9, _, _ => exact Or.inr sn_9_13
  | 10, _, _ => exact Or.inr sn_10_13
  | 11, _, _ => exact Or.inr sn_11_13
  | 12, _, _ => exact Or.inr sn_12_13
  | 13, _, h => exact absurd rfl h
  | 14, _, _ => exact Or.inl sn_13_14
  | 15, _, _ => exact Or.inl sn_13_15
  | 16, _, _ => exact Or.inl sn_13_16
  | 17, _, _ => exact Or.inl sn_13_17
  | 18, _, _ => exact Or.inl sn_13_18
  | 19, _, _ => exact Or.inl sn_13_19
  | j + 20, h, _ => exact absurd h (by omega)
theorem sn_14 : ∀ j, j < 20 → ¬ 14 = j → Cond.not (Cond.eq (zTm 14) (zTm j)) ∈ lw_fl ∨ Cond.not (Cond.eq (zTm j) (zTm 14)) ∈ lw_fl := fun j hj hij => by
  match j, hj, hij with
  | 0, _, _ => exact Or.inr sn_0_14
  | 1, _, _ => exact Or.inr sn_1_14
  | 2, _, _ => exact Or.inr sn_2_14
  | 3, _, _ => exact Or.inr sn_3_14
  | 4, _, _ => exact Or.inr sn_4_14
  | 5, _, _ => exact Or.inr sn_5_14
  | 6, _, _ => exact Or.inr sn_6_14
  | 7, _, _ => exact Or.inr sn_7_14
  | 8, _, _ => exact Or.inr sn_8_14
  | 9, _, _ => exact Or.inr sn_9_14
  | 10, _, _ => exact Or.inr sn_10_14
  | 11, _, _ => exact Or.inr sn_11_14
  | 12, _, _ => exact Or.inr sn_12_14
  | 13, _, _ => exact Or.inr sn_13_14
  | 14, _, h => exact absurd rfl h
  | 15, _, _ => exact Or.inl sn_14_15
  | 16, _, _ => exact Or.inl sn_14_16
  | 17, _, _ => exact Or.inl sn_14_17
  | 18, _, _ => exact Or.inl sn_14_18
  | 19, _, _ => exact Or.inl sn_14_19
  | j + 20, h, _ => exact absurd h (by omega)
theorem sn_15 : ∀ j, j < 20 → ¬ 15 = j → Cond.not (Cond.eq (zTm 15) (zTm j)) ∈ lw_fl ∨ Cond.not (Cond.eq (zTm j) (zTm 15)) ∈ lw_fl := fun j hj hij => by
  match j, hj, hij with
  | 0, _, _ => exact Or.inr sn_0_15
  | 1, _, _ => exact Or.inr sn_1_15
  | 2, _, _ => exact Or.inr sn_2_15
  | 3, _, _ => exact Or.inr sn_3_15
  | 4, _, _ => exact Or.inr sn_4_15
  | 5, _, _ => exact Or.inr sn_5_15
  | 6, _, _ => exact Or.inr sn_6_15
  | 7, _, _ => exact Or.inr sn_7_15
  | 8, _, _ => exact Or.inr sn_8_15
  | 9, _, _ => exact Or.inr sn_9_15
  | 10, _, _ => exact Or.inr sn_10_15
  | 11, _, _ => exact Or.inr sn_11_15
  | 12, _, _ => exact Or.inr sn_12_15
  | 13, _, _ => exact Or.inr sn_13_15
  | 14, _, _ => exact Or.inr sn_14_15
  | 15, _, h => exact absurd rfl h
  | 16, _, _ => exact Or.inl sn_15_16
  | 17, _, _ => exact Or.inl sn_15_17
  | 18, _, _ => exact Or.inl sn_15_18
  | 19, _, _ => exact Or.inl sn_15_19
  | j + 20, h, _ => exact absurd h (by omega)
theorem sn_16 : ∀ j, j < 20 → ¬ 16 = j → Cond.not (Cond.eq (zTm 16) (zTm j)) ∈ lw_fl ∨ Cond.not (Cond.eq (zTm j) (zTm 16)) ∈ lw_fl := fun j hj hij => by
  match j, hj, hij with
  | 0, _, _ => exact Or.inr sn_0_16
  | 1, _, _ => exact Or.inr sn_1_16
  | 2, _, _ => exact Or.inr sn_2_16
  | 3, _, _ => exact Or.inr sn_3_16
  | 4, _, _ => exact Or.inr sn_4_16
  | 5, _, _ => exact Or.inr sn_5_16
  | 6, _, _ => exact Or.inr sn_6_16
  | 7, _, _ => exact Or.inr sn_7_16
  | 8, _, _ => exact Or.inr sn_8_16
  | 9, _, _ => exact Or.inr sn_9_16
  | 10, _, _ => exact Or.inr sn_10_16
  | 11, _, _ => exact Or.inr sn_11_16
  | 12, _, _ => exact Or.inr sn_12_16
  | 13, _, _ => exact Or.inr sn_13_16
  | 14, _, _ => exact Or.inr sn_14_16
  | 15, _, _ => exact Or.inr sn_15_16
  | 16, _, h => exact absurd rfl h
  | 17, _, _ => exact Or.inl sn_16_17
  | 18, _, _ => exact Or.inl sn_16_18
  | 19, _, _ => exact Or.inl sn_16_19
  | j + 20, h, _ => exact absurd h (by omega)
theorem sn_17 : ∀ j, j < 20 → ¬ 17 = j → Cond.not (Cond.eq (zTm 17) (zTm j)) ∈ lw_fl ∨ Cond.not (Cond.eq (zTm j) (zTm 17)) ∈ lw_fl := fun j hj hij => by
  match j, hj, hij with
  | 0, _, _ => exact Or.inr sn_0_17
  | 1, _, _ => exact Or.inr sn_1_17
  | 2, _, _ => exact Or.inr sn_2_17
  | 3, _, _ => exact Or.inr sn_3_17
  | 4, _, _ => exact Or.inr sn_4_17
  | 5, _, _ => exact Or.inr sn_5_17
  | 6, _, _ => exact Or.inr sn_6_17
  | 7, _, _ => exact Or.inr sn_7_17
  | 8, _, _ => exact Or.inr sn_8_17
  | 9, _, _ => exact Or.inr sn_9_17
  | 10, _, _ => exact Or.inr sn_10_17
  | 11, _, _ => exact Or.inr sn_11_17
  | 12, _, _ => exact Or.inr sn_12_17
  | 13, _, _ => exact Or.inr sn_13_17
  | 14, _, _ => exact Or.inr sn_14_17
  | 15, _, _ => exact Or.inr sn_15_17
  | 16, _, _ => exact Or.inr sn_16_17
  | 17, _, h => exact absurd rfl h
  | 18, _, _ => exact Or.inl sn_17_18
  | 19, _, _ => exact Or.inl sn_17_19
  | j + 20, h, _ => exact absurd h (by omega)
theorem sn_18 : ∀ j, j < 20 → ¬ 18 = j → Cond.not (Cond.eq (zTm 18) (zTm j)) ∈ lw_fl ∨ Cond.not (Cond.eq (zTm j) (zTm 18)) ∈ lw_fl := fun j hj hij => by
  match j, hj, hij with
  | 0, _, _ => exact Or.inr sn_0_18
  | 1, _, _ => exact Or.inr sn_1_18
  | 2, _, _ => exact Or.inr sn_2_18
  | 3, _, _ => exact Or.inr sn_3_18
  | 4, _, _ => exact Or.inr sn_4_18
  | 5, _, _ => exact Or.inr sn_5_18
  | 6, _, _ => exact Or.inr sn_6_18
  | 7, _, _ => exact Or.inr sn_7_18
  | 8, _, _ => exact Or.inr sn_8_18
  | 9, _, _ => exact Or.inr sn_9_18
  | 10, _, _ => exact Or.inr sn_10_18
  | 11, _, _ => exact Or.inr sn_11_18
  | 12, _, _ => exact Or.inr sn_12_18
  | 13, _, _ => exact Or.inr sn_13_18
  | 14, _, _ => exact Or.inr sn_14_18
  | 15, _, _ => exact Or.inr sn_15_18
  | 16, _, _ => exact Or.inr sn_16_18
  | 17, _, _ => exact Or.inr sn_17_18
  | 18, _, h => exact absurd rfl h
  | 19, _, _ => exact Or.inl sn_18_19
  | j + 20, h, _ => exact absurd h (by omega)
theorem sn_19 : ∀ j, j < 20 → ¬ 19 = j → Cond.not (Cond.eq (zTm 19) (zTm j)) ∈ lw_fl ∨ Cond.not (Cond.eq (zTm j) (zTm 19)) ∈ lw_fl := fun j hj hij => by
  match j, hj, hij with
  | 0, _, _ => exact Or.inr sn_0_19
  | 1, _, _ => exact Or.inr sn_1_19
  | 2, _, _ => exact Or.inr sn_2_19
  | 3, _, _ => exact Or.inr sn_3_19
  | 4, _, _ => exact Or.inr sn_4_19
  | 5, _, _ => exact Or.inr sn_5_19
  | 6, _, _ => exact Or.inr sn_6_19
  | 7, _, _ => exact Or.inr sn_7_19
  | 8, _, _ => exact Or.inr sn_8_19
  | 9, _, _ => exact Or.inr sn_9_19
  | 10, _, _ => exact Or.inr sn_10_19
  | 11, _, _ => exact Or.inr sn_11_19
  | 12, _, _ => exact Or.inr sn_12_19
  | 13, _, _ => exact Or.inr sn_13_19
  | 14, _, _ => exact Or.inr sn_14_19
  | 15, _, _ => exact Or.inr sn_15_19
  | 16, _, _ => exact Or.inr sn_16_19
  | 17, _, _ => exact Or.inr sn_17_19
  | 18, _, _ => exact Or.inr sn_18_19
  | 19, _, h => exact absurd rfl h
  | j + 20, h, _ => exact absurd h (by omega)
theorem st_ne : ∀ i, i < 20 → ∀ j, j < 20 → ¬ i = j → Cond.not (Cond.eq (zTm i) (zTm j)) ∈ lw_fl ∨ Cond.not (Cond.eq (zTm j) (zTm i)) ∈ lw_fl := fun i hi => by
  match i, hi with
  | 0, _ => exact sn_0
  | 1, _ => exact sn_1
  | 2, _ => exact sn_2
  | 3, _ => exact sn_3
  | 4, _ => exact sn_4
  | 5, _ => exact sn_5
  | 6, _ => exact sn_6
  | 7, _ => exact sn_7
  | 8, _ => exact sn_8
  | 9, _ => exact sn_9
  | 10, _ => exact sn_10
  | 11, _ => exact sn_11
  | 12, _ => exact sn_12
  | 13, _ => exact sn_13
  | 14, _ => exact sn_14
  | 15, _ => exact sn_15
  | 16, _ => exact sn_16
  | 17, _ => exact sn_17
  | 18, _ => exact sn_18
  | 19, _ => exact sn_19
  | i + 20, h => exact absurd h (by omega)
theorem st_cs : Cond.eq (.static "java/lang/String" "COMPACT_STRINGS" "Z") (.int 1) ∈ lw_fl := by decide +kernel
theorem st_si : Cond.isRef (.static "jdk/internal/util/Preconditions" "SIOOBE_FORMATTER" "Ljava/util/function/BiFunction;") ∈ lw_fl := by decide +kernel
theorem st_rf : ∀ i, i < 20 → Cond.stringRef (zSo i).1 (zSo i).2.1 (zSo i).2.2 ∈ lw_tbl := by decide +kernel
theorem st_in : ∀ c, c < 9 → Cond.instantiable (zRn c) (zN c) ∈ lw_tbl := by decide +kernel
theorem st_w1 : Cond.laysStatic "java/lang/String" "COMPACT_STRINGS" "Z" ∈ lw_tbl := by decide +kernel
theorem st_w2 : Cond.initialized "java/lang/String" ∈ lw_tbl := by decide +kernel
theorem st_w3 : Cond.laysStatic "jdk/internal/util/Preconditions" "SIOOBE_FORMATTER" "Ljava/util/function/BiFunction;" ∈ lw_tbl := by decide +kernel
theorem st_w4 : Cond.initialized "jdk/internal/util/Preconditions" ∈ lw_tbl := by decide +kernel
theorem st_a1 : Cond.arrayClass .int ∈ lw_tbl := by decide +kernel
theorem st_a2 : Cond.arrayClass .byte ∈ lw_tbl := by decide +kernel
theorem st_a3 : Cond.arrayClass .boolean ∈ lw_tbl := by decide +kernel
theorem st_o1 : Cond.arrayOver (.object "MarshLights$Thing") ∈ lw_tbl := by decide +kernel
theorem st_o2 : Cond.arrayOver (.object "MarshLights$Telling") ∈ lw_tbl := by decide +kernel
theorem st_o3 : Cond.arrayOver (.array .int) ∈ lw_tbl := by decide +kernel
theorem st_o4 : Cond.arrayOver (.object "java/lang/String") ∈ lw_tbl := by decide +kernel
theorem zCl_all : ∀ c, c < 9 → zCl c := fun c h => by
  rcases (show c = 0 ∨ c = 1 ∨ c = 2 ∨ c = 3 ∨ c = 4 ∨ c = 5 ∨ c = 6 ∨ c = 7 ∨ c = 8 by omega) with rfl | rfl | rfl | rfl | rfl | rfl | rfl | rfl | rfl
  · exact zCl0
  · exact zCl1
  · exact zCl2
  · exact zCl3
  · exact zCl4
  · exact zCl5
  · exact zCl6
  · exact zCl7
  · exact zCl8
theorem st_prim {args : Array Value} {s : State} {ty : FieldType} (h : (Cond.arrayClass ty).before args s = true) (hra : ∀ cA, s.vm.findClass ("[" ++ ty.toString) = some cA → va_RA s cA ty) : ∃ cA, ArrOfT s cA ty ∧ va_RA s cA ty := by
  obtain ⟨c, k, comp, h1, h2, h3⟩ := Cond.arrayClass_spec h
  exact ⟨c, fun n z => ⟨(fun q h => by cases h), k, h2, comp, h3⟩, hra c h1⟩
theorem st_obj {args : Array Value} {s : State} {C : String} (h : (Cond.arrayOver (.object C)).before args s = true) : ∃ cA, ArrOfT s cA (.object C) ∧ va_RA s cA (.object C) := by
  obtain ⟨comp, c, k, h1, h2, h3, h4, h5⟩ := Cond.arrayOver_spec h
  exact ⟨c, fun n z => ⟨(fun q h => by cases h), k, h3, comp, h4⟩, k, comp, h3, h4, h1, h5⟩
theorem st_arr {args : Array Value} {s : State} (h : (Cond.arrayOver (.array .int)).before args s = true) : ∃ cA, ArrOfT s cA (.array .int) ∧ va_RA s cA (.array .int) := by
  simp only [Cond.before, Cond.holds, Cond.value, beq_iff_eq] at h
  cases hc : s.vm.findClass (FieldType.array .int).toString with
  | none => simp [hc] at h
  | some comp =>
    simp only [hc, Option.bind_some, Option.bind_eq_some_iff, Option.map_eq_some_iff] at h
    obtain ⟨c, hi, k, hk, hb⟩ := h
    cases hkind : k.kind with
    | array component ty =>
      rw [hkind] at hb
      simp at hb
      exact ⟨c, fun n z => ⟨(fun q h => by cases h), k, hk, component, by rw [hkind, hb.1]⟩, hb.2⟩
    | _ => rw [hkind] at hb; simp at hb
theorem st_room : zSS 200 ≤ 7302250 := by decide +kernel
theorem st_room2 : zSS 200 - zSS 0 ≤ 7302250 := Nat.le_trans (Nat.sub_le _ _) st_room
