/-! ===== the objects by number: what they are, what they refer to ===== -/
def zR0 (o k : Nat) : Nat := if o = 64 then (if k = 0 then 65 else if k = 1 then 68 else if k = 2 then 69 else if k = 4 then 70 else if k = 6 then 71 else if k = 11 then 72 else if k = 12 then 73 else if k = 13 then 74 else if k = 14 then 75 else if k = 17 then 91 else 0) else if o = 65 then (if k = 0 then 66 else if k = 1 then 67 else 0) else if o = 68 then (if k = 0 then 65 else 0) else if o = 75 then (if k = 0 then 76 else if k = 2 then 77 else if k = 3 then 78 else 0) else if o = 79 then (if k = 0 then 80 else if k = 6 then 81 else if k = 7 then 82 else if k = 8 then 83 else if k = 9 then 84 else 0) else if o = 85 then (if k = 0 then 86 else if k = 6 then 87 else if k = 7 then 88 else if k = 8 then 89 else if k = 9 then 90 else 0) else if o = 164 then (if k = 0 then 165 else if k = 1 then 166 else if k = 2 then 167 else if k = 3 then 168 else if k = 4 then 169 else if k = 5 then 170 else if k = 6 then 171 else if k = 7 then 172 else if k = 8 then 173 else if k = 9 then 174 else if k = 10 then 175 else if k = 11 then 176 else if k = 12 then 177 else if k = 13 then 178 else if k = 14 then 179 else if k = 15 then 180 else if k = 16 then 181 else if k = 23 then 182 else if k = 27 then 243 else if k = 28 then 244 else if k = 33 then 245 else if k = 34 then 248 else if k = 35 then 251 else if k = 36 then 254 else if k = 37 then 257 else if k = 38 then 258 else if k = 39 then 259 else if k = 40 then 260 else if k = 41 then 261 else if k = 42 then 262 else if k = 43 then 263 else 0) else if o = 70 then (if k < 12 then 92 + k else 0) else if o = 71 then (if k < 60 then 104 + k else 0) else if o = 182 then (if k < 60 then 183 + k else 0) else if o = 245 then (if k < 2 then 246 + k else 0) else if o = 248 then (if k < 2 then 249 + k else 0) else if o = 251 then (if k < 2 then 252 + k else 0) else if o = 254 then (if k < 2 then 255 + k else 0) else if o = 262 then (if k < 7 then 4 + k else 0) else if o = 263 then (if k < 7 then 11 + k else 0) else 0
def zRok (s : zS) : Prop := (∀ o k, ¬ zR0 o k = 0 → s.2.2.1 o k = zR0 o k) ∧ ((s.2.2.1 64 15 = 79 ∧ s.2.2.1 64 16 = 85) ∨ (s.2.2.1 64 15 = 85 ∧ s.2.2.1 64 16 = 79))
theorem zRok_of {s s' : zS} (h : s'.2.2.1 = s.2.2.1) (hR : zRok s) : zRok s' := by unfold zRok; rw [h]; exact hR
theorem r_64_0 {s : zS} (h : zRok s) : s.2.2.1 64 0 = 65 := h.1 64 0 (by decide)
theorem r_64_1 {s : zS} (h : zRok s) : s.2.2.1 64 1 = 68 := h.1 64 1 (by decide)
theorem r_64_2 {s : zS} (h : zRok s) : s.2.2.1 64 2 = 69 := h.1 64 2 (by decide)
theorem r_64_4 {s : zS} (h : zRok s) : s.2.2.1 64 4 = 70 := h.1 64 4 (by decide)
theorem r_64_6 {s : zS} (h : zRok s) : s.2.2.1 64 6 = 71 := h.1 64 6 (by decide)
theorem r_64_11 {s : zS} (h : zRok s) : s.2.2.1 64 11 = 72 := h.1 64 11 (by decide)
theorem r_64_12 {s : zS} (h : zRok s) : s.2.2.1 64 12 = 73 := h.1 64 12 (by decide)
theorem r_64_13 {s : zS} (h : zRok s) : s.2.2.1 64 13 = 74 := h.1 64 13 (by decide)
theorem r_64_14 {s : zS} (h : zRok s) : s.2.2.1 64 14 = 75 := h.1 64 14 (by decide)
theorem r_64_17 {s : zS} (h : zRok s) : s.2.2.1 64 17 = 91 := h.1 64 17 (by decide)
theorem r_65_0 {s : zS} (h : zRok s) : s.2.2.1 65 0 = 66 := h.1 65 0 (by decide)
theorem r_65_1 {s : zS} (h : zRok s) : s.2.2.1 65 1 = 67 := h.1 65 1 (by decide)
theorem r_68_0 {s : zS} (h : zRok s) : s.2.2.1 68 0 = 65 := h.1 68 0 (by decide)
theorem r_75_0 {s : zS} (h : zRok s) : s.2.2.1 75 0 = 76 := h.1 75 0 (by decide)
theorem r_75_2 {s : zS} (h : zRok s) : s.2.2.1 75 2 = 77 := h.1 75 2 (by decide)
theorem r_75_3 {s : zS} (h : zRok s) : s.2.2.1 75 3 = 78 := h.1 75 3 (by decide)
theorem r_79_0 {s : zS} (h : zRok s) : s.2.2.1 79 0 = 80 := h.1 79 0 (by decide)
theorem r_79_6 {s : zS} (h : zRok s) : s.2.2.1 79 6 = 81 := h.1 79 6 (by decide)
theorem r_79_7 {s : zS} (h : zRok s) : s.2.2.1 79 7 = 82 := h.1 79 7 (by decide)
theorem r_79_8 {s : zS} (h : zRok s) : s.2.2.1 79 8 = 83 := h.1 79 8 (by decide)
theorem r_79_9 {s : zS} (h : zRok s) : s.2.2.1 79 9 = 84 := h.1 79 9 (by decide)
theorem r_85_0 {s : zS} (h : zRok s) : s.2.2.1 85 0 = 86 := h.1 85 0 (by decide)
theorem r_85_6 {s : zS} (h : zRok s) : s.2.2.1 85 6 = 87 := h.1 85 6 (by decide)
theorem r_85_7 {s : zS} (h : zRok s) : s.2.2.1 85 7 = 88 := h.1 85 7 (by decide)
theorem r_85_8 {s : zS} (h : zRok s) : s.2.2.1 85 8 = 89 := h.1 85 8 (by decide)
theorem r_85_9 {s : zS} (h : zRok s) : s.2.2.1 85 9 = 90 := h.1 85 9 (by decide)
theorem r_164_0 {s : zS} (h : zRok s) : s.2.2.1 164 0 = 165 := h.1 164 0 (by decide)
theorem r_164_1 {s : zS} (h : zRok s) : s.2.2.1 164 1 = 166 := h.1 164 1 (by decide)
theorem r_164_2 {s : zS} (h : zRok s) : s.2.2.1 164 2 = 167 := h.1 164 2 (by decide)
theorem r_164_3 {s : zS} (h : zRok s) : s.2.2.1 164 3 = 168 := h.1 164 3 (by decide)
theorem r_164_4 {s : zS} (h : zRok s) : s.2.2.1 164 4 = 169 := h.1 164 4 (by decide)
theorem r_164_5 {s : zS} (h : zRok s) : s.2.2.1 164 5 = 170 := h.1 164 5 (by decide)
theorem r_164_6 {s : zS} (h : zRok s) : s.2.2.1 164 6 = 171 := h.1 164 6 (by decide)
theorem r_164_7 {s : zS} (h : zRok s) : s.2.2.1 164 7 = 172 := h.1 164 7 (by decide)
theorem r_164_8 {s : zS} (h : zRok s) : s.2.2.1 164 8 = 173 := h.1 164 8 (by decide)
theorem r_164_9 {s : zS} (h : zRok s) : s.2.2.1 164 9 = 174 := h.1 164 9 (by decide)
theorem r_164_10 {s : zS} (h : zRok s) : s.2.2.1 164 10 = 175 := h.1 164 10 (by decide)
theorem r_164_11 {s : zS} (h : zRok s) : s.2.2.1 164 11 = 176 := h.1 164 11 (by decide)
theorem r_164_12 {s : zS} (h : zRok s) : s.2.2.1 164 12 = 177 := h.1 164 12 (by decide)
theorem r_164_13 {s : zS} (h : zRok s) : s.2.2.1 164 13 = 178 := h.1 164 13 (by decide)
theorem r_164_14 {s : zS} (h : zRok s) : s.2.2.1 164 14 = 179 := h.1 164 14 (by decide)
theorem r_164_15 {s : zS} (h : zRok s) : s.2.2.1 164 15 = 180 := h.1 164 15 (by decide)
theorem r_164_16 {s : zS} (h : zRok s) : s.2.2.1 164 16 = 181 := h.1 164 16 (by decide)
theorem r_164_23 {s : zS} (h : zRok s) : s.2.2.1 164 23 = 182 := h.1 164 23 (by decide)
theorem r_164_27 {s : zS} (h : zRok s) : s.2.2.1 164 27 = 243 := h.1 164 27 (by decide)
theorem r_164_28 {s : zS} (h : zRok s) : s.2.2.1 164 28 = 244 := h.1 164 28 (by decide)
theorem r_164_33 {s : zS} (h : zRok s) : s.2.2.1 164 33 = 245 := h.1 164 33 (by decide)
theorem r_164_34 {s : zS} (h : zRok s) : s.2.2.1 164 34 = 248 := h.1 164 34 (by decide)
theorem r_164_35 {s : zS} (h : zRok s) : s.2.2.1 164 35 = 251 := h.1 164 35 (by decide)
theorem r_164_36 {s : zS} (h : zRok s) : s.2.2.1 164 36 = 254 := h.1 164 36 (by decide)
theorem r_164_37 {s : zS} (h : zRok s) : s.2.2.1 164 37 = 257 := h.1 164 37 (by decide)
theorem r_164_38 {s : zS} (h : zRok s) : s.2.2.1 164 38 = 258 := h.1 164 38 (by decide)
theorem r_164_39 {s : zS} (h : zRok s) : s.2.2.1 164 39 = 259 := h.1 164 39 (by decide)
theorem r_164_40 {s : zS} (h : zRok s) : s.2.2.1 164 40 = 260 := h.1 164 40 (by decide)
theorem r_164_41 {s : zS} (h : zRok s) : s.2.2.1 164 41 = 261 := h.1 164 41 (by decide)
theorem r_164_42 {s : zS} (h : zRok s) : s.2.2.1 164 42 = 262 := h.1 164 42 (by decide)
theorem r_164_43 {s : zS} (h : zRok s) : s.2.2.1 164 43 = 263 := h.1 164 43 (by decide)
theorem vin {i : Int32} {n : Nat} (h : vp_in i n) : i.toNatClampNeg < n := Nat.not_le.mp fun q => h (Or.inr q)
theorem r_70 {s : zS} {i : Int32} (h : zRok s) (hin : vp_in i 12) : s.2.2.1 70 i.toNatClampNeg = 92 + i.toNatClampNeg := by
  have hl := vin hin
  have e : zR0 70 i.toNatClampNeg = 92 + i.toNatClampNeg := by
    show (if i.toNatClampNeg < 12 then 92 + i.toNatClampNeg else 0) = _
    rw [if_pos hl]
  have := h.1 70 i.toNatClampNeg (by rw [e]; omega)
  rw [this, e]
theorem p_70 {i : Int32} (hin : vp_in i 12) : 92 ≤ 92 + i.toNatClampNeg ∧ 92 + i.toNatClampNeg < 104 := by have := vin hin; omega
theorem r_71 {s : zS} {i : Int32} (h : zRok s) (hin : vp_in i 60) : s.2.2.1 71 i.toNatClampNeg = 104 + i.toNatClampNeg := by
  have hl := vin hin
  have e : zR0 71 i.toNatClampNeg = 104 + i.toNatClampNeg := by
    show (if i.toNatClampNeg < 60 then 104 + i.toNatClampNeg else 0) = _
    rw [if_pos hl]
  have := h.1 71 i.toNatClampNeg (by rw [e]; omega)
  rw [this, e]
theorem p_71 {i : Int32} (hin : vp_in i 60) : 104 ≤ 104 + i.toNatClampNeg ∧ 104 + i.toNatClampNeg < 164 := by have := vin hin; omega
theorem r_182 {s : zS} {i : Int32} (h : zRok s) (hin : vp_in i 60) : s.2.2.1 182 i.toNatClampNeg = 183 + i.toNatClampNeg := by
  have hl := vin hin
  have e : zR0 182 i.toNatClampNeg = 183 + i.toNatClampNeg := by
    show (if i.toNatClampNeg < 60 then 183 + i.toNatClampNeg else 0) = _
    rw [if_pos hl]
  have := h.1 182 i.toNatClampNeg (by rw [e]; omega)
  rw [this, e]
theorem p_182 {i : Int32} (hin : vp_in i 60) : 183 ≤ 183 + i.toNatClampNeg ∧ 183 + i.toNatClampNeg < 243 := by have := vin hin; omega
theorem r_245 {s : zS} {i : Int32} (h : zRok s) (hin : vp_in i 2) : s.2.2.1 245 i.toNatClampNeg = 246 + i.toNatClampNeg := by
  have hl := vin hin
  have e : zR0 245 i.toNatClampNeg = 246 + i.toNatClampNeg := by
    show (if i.toNatClampNeg < 2 then 246 + i.toNatClampNeg else 0) = _
    rw [if_pos hl]
  have := h.1 245 i.toNatClampNeg (by rw [e]; omega)
  rw [this, e]
theorem p_245 {i : Int32} (hin : vp_in i 2) : 246 ≤ 246 + i.toNatClampNeg ∧ 246 + i.toNatClampNeg < 248 := by have := vin hin; omega
theorem r_248 {s : zS} {i : Int32} (h : zRok s) (hin : vp_in i 2) : s.2.2.1 248 i.toNatClampNeg = 249 + i.toNatClampNeg := by
  have hl := vin hin
  have e : zR0 248 i.toNatClampNeg = 249 + i.toNatClampNeg := by
    show (if i.toNatClampNeg < 2 then 249 + i.toNatClampNeg else 0) = _
    rw [if_pos hl]
  have := h.1 248 i.toNatClampNeg (by rw [e]; omega)
  rw [this, e]
theorem p_248 {i : Int32} (hin : vp_in i 2) : 249 ≤ 249 + i.toNatClampNeg ∧ 249 + i.toNatClampNeg < 251 := by have := vin hin; omega
theorem r_251 {s : zS} {i : Int32} (h : zRok s) (hin : vp_in i 2) : s.2.2.1 251 i.toNatClampNeg = 252 + i.toNatClampNeg := by
  have hl := vin hin
  have e : zR0 251 i.toNatClampNeg = 252 + i.toNatClampNeg := by
    show (if i.toNatClampNeg < 2 then 252 + i.toNatClampNeg else 0) = _
    rw [if_pos hl]
  have := h.1 251 i.toNatClampNeg (by rw [e]; omega)
  rw [this, e]
theorem p_251 {i : Int32} (hin : vp_in i 2) : 252 ≤ 252 + i.toNatClampNeg ∧ 252 + i.toNatClampNeg < 254 := by have := vin hin; omega
theorem r_254 {s : zS} {i : Int32} (h : zRok s) (hin : vp_in i 2) : s.2.2.1 254 i.toNatClampNeg = 255 + i.toNatClampNeg := by
  have hl := vin hin
  have e : zR0 254 i.toNatClampNeg = 255 + i.toNatClampNeg := by
    show (if i.toNatClampNeg < 2 then 255 + i.toNatClampNeg else 0) = _
    rw [if_pos hl]
  have := h.1 254 i.toNatClampNeg (by rw [e]; omega)
  rw [this, e]
theorem p_254 {i : Int32} (hin : vp_in i 2) : 255 ≤ 255 + i.toNatClampNeg ∧ 255 + i.toNatClampNeg < 257 := by have := vin hin; omega
theorem r_262 {s : zS} {i : Int32} (h : zRok s) (hin : vp_in i 7) : s.2.2.1 262 i.toNatClampNeg = 2 + (2 + i.toNatClampNeg) := by
  have hl := vin hin
  have e : zR0 262 i.toNatClampNeg = 4 + i.toNatClampNeg := by
    show (if i.toNatClampNeg < 7 then 4 + i.toNatClampNeg else 0) = _
    rw [if_pos hl]
  have := h.1 262 i.toNatClampNeg (by rw [e]; omega)
  rw [this, e]
  omega
theorem p_262 {i : Int32} (hin : vp_in i 7) : 2 + i.toNatClampNeg < 20 := by have := vin hin; omega
theorem r_263 {s : zS} {i : Int32} (h : zRok s) (hin : vp_in i 7) : s.2.2.1 263 i.toNatClampNeg = 2 + (9 + i.toNatClampNeg) := by
  have hl := vin hin
  have e : zR0 263 i.toNatClampNeg = 11 + i.toNatClampNeg := by
    show (if i.toNatClampNeg < 7 then 11 + i.toNatClampNeg else 0) = _
    rw [if_pos hl]
  have := h.1 263 i.toNatClampNeg (by rw [e]; omega)
  rw [this, e]
  omega
theorem p_263 {i : Int32} (hin : vp_in i 7) : 9 + i.toNatClampNeg < 20 := by have := vin hin; omega
theorem i_64 {σ : zS} : zIs σ 200 7 64 := ⟨zCl7, by decide, by decide, fun h => by omega⟩
theorem i_65 {σ : zS} : zIs σ 200 1 65 := ⟨zCl1, by decide, by decide, fun h => by omega⟩
theorem a_66 {σ : zS} : zAr σ 200 20 4096 66 := ⟨by decide, by decide, by decide, fun h => by omega⟩
theorem a_67 {σ : zS} : zAr σ 200 20 4096 67 := ⟨by decide, by decide, by decide, fun h => by omega⟩
theorem i_68 {σ : zS} : zIs σ 200 4 68 := ⟨zCl4, by decide, by decide, fun h => by omega⟩
theorem a_69 {σ : zS} : zAr σ 200 20 20 69 := ⟨by decide, by decide, by decide, fun h => by omega⟩
theorem a_70 {σ : zS} : zAr σ 200 23 12 70 := ⟨by decide, by decide, by decide, fun h => by omega⟩
theorem a_71 {σ : zS} : zAr σ 200 24 60 71 := ⟨by decide, by decide, by decide, fun h => by omega⟩
theorem a_72 {σ : zS} : zAr σ 200 20 12 72 := ⟨by decide, by decide, by decide, fun h => by omega⟩
theorem a_73 {σ : zS} : zAr σ 200 20 60 73 := ⟨by decide, by decide, by decide, fun h => by omega⟩
theorem i_74 {σ : zS} : zIs σ 200 0 74 := ⟨zCl0, by decide, by decide, fun h => by omega⟩
theorem i_75 {σ : zS} : zIs σ 200 2 75 := ⟨zCl2, by decide, by decide, fun h => by omega⟩
theorem a_76 {σ : zS} : zAr σ 200 20 400 76 := ⟨by decide, by decide, by decide, fun h => by omega⟩
theorem a_77 {σ : zS} : zAr σ 200 20 401 77 := ⟨by decide, by decide, by decide, fun h => by omega⟩
theorem a_78 {σ : zS} : zAr σ 200 20 401 78 := ⟨by decide, by decide, by decide, fun h => by omega⟩
theorem i_79 {σ : zS} : zIs σ 200 3 79 := ⟨zCl3, by decide, by decide, fun h => by omega⟩
theorem a_80 {σ : zS} : zAr σ 200 20 400 80 := ⟨by decide, by decide, by decide, fun h => by omega⟩
theorem a_81 {σ : zS} : zAr σ 200 20 12 81 := ⟨by decide, by decide, by decide, fun h => by omega⟩
theorem a_82 {σ : zS} : zAr σ 200 20 12 82 := ⟨by decide, by decide, by decide, fun h => by omega⟩
theorem a_83 {σ : zS} : zAr σ 200 20 12 83 := ⟨by decide, by decide, by decide, fun h => by omega⟩
theorem a_84 {σ : zS} : zAr σ 200 20 24 84 := ⟨by decide, by decide, by decide, fun h => by omega⟩
theorem i_85 {σ : zS} : zIs σ 200 3 85 := ⟨zCl3, by decide, by decide, fun h => by omega⟩
theorem a_86 {σ : zS} : zAr σ 200 20 400 86 := ⟨by decide, by decide, by decide, fun h => by omega⟩
theorem a_87 {σ : zS} : zAr σ 200 20 12 87 := ⟨by decide, by decide, by decide, fun h => by omega⟩
theorem a_88 {σ : zS} : zAr σ 200 20 12 88 := ⟨by decide, by decide, by decide, fun h => by omega⟩
theorem a_89 {σ : zS} : zAr σ 200 20 12 89 := ⟨by decide, by decide, by decide, fun h => by omega⟩
theorem a_90 {σ : zS} : zAr σ 200 20 24 90 := ⟨by decide, by decide, by decide, fun h => by omega⟩
theorem a_91 {σ : zS} : zAr σ 200 20 7 91 := ⟨by decide, by decide, by decide, fun h => by omega⟩
theorem i_164 {σ : zS} : zIs σ 200 8 164 := ⟨zCl8, by decide, by decide, fun h => by omega⟩
theorem a_165 {σ : zS} : zAr σ 200 20 8 165 := ⟨by decide, by decide, by decide, fun h => by omega⟩
theorem a_166 {σ : zS} : zAr σ 200 20 8 166 := ⟨by decide, by decide, by decide, fun h => by omega⟩
theorem a_167 {σ : zS} : zAr σ 200 20 8 167 := ⟨by decide, by decide, by decide, fun h => by omega⟩
theorem a_168 {σ : zS} : zAr σ 200 20 8 168 := ⟨by decide, by decide, by decide, fun h => by omega⟩
theorem a_169 {σ : zS} : zAr σ 200 20 8 169 := ⟨by decide, by decide, by decide, fun h => by omega⟩
theorem a_170 {σ : zS} : zAr σ 200 20 20 170 := ⟨by decide, by decide, by decide, fun h => by omega⟩
theorem a_171 {σ : zS} : zAr σ 200 20 20 171 := ⟨by decide, by decide, by decide, fun h => by omega⟩
theorem a_172 {σ : zS} : zAr σ 200 20 12 172 := ⟨by decide, by decide, by decide, fun h => by omega⟩
theorem a_173 {σ : zS} : zAr σ 200 20 12 173 := ⟨by decide, by decide, by decide, fun h => by omega⟩
theorem a_174 {σ : zS} : zAr σ 200 20 12 174 := ⟨by decide, by decide, by decide, fun h => by omega⟩
theorem a_175 {σ : zS} : zAr σ 200 20 12 175 := ⟨by decide, by decide, by decide, fun h => by omega⟩
theorem a_176 {σ : zS} : zAr σ 200 20 12 176 := ⟨by decide, by decide, by decide, fun h => by omega⟩
theorem a_177 {σ : zS} : zAr σ 200 20 12 177 := ⟨by decide, by decide, by decide, fun h => by omega⟩
theorem a_178 {σ : zS} : zAr σ 200 20 12 178 := ⟨by decide, by decide, by decide, fun h => by omega⟩
theorem a_179 {σ : zS} : zAr σ 200 20 12 179 := ⟨by decide, by decide, by decide, fun h => by omega⟩
theorem a_180 {σ : zS} : zAr σ 200 20 12 180 := ⟨by decide, by decide, by decide, fun h => by omega⟩
theorem a_181 {σ : zS} : zAr σ 200 20 12 181 := ⟨by decide, by decide, by decide, fun h => by omega⟩
theorem a_182 {σ : zS} : zAr σ 200 25 60 182 := ⟨by decide, by decide, by decide, fun h => by omega⟩
theorem a_243 {σ : zS} : zAr σ 200 20 60 243 := ⟨by decide, by decide, by decide, fun h => by omega⟩
theorem a_244 {σ : zS} : zAr σ 200 21 400 244 := ⟨by decide, by decide, by decide, fun h => by omega⟩
theorem a_245 {σ : zS} : zAr σ 200 25 2 245 := ⟨by decide, by decide, by decide, fun h => by omega⟩
theorem a_246 {σ : zS} : zAr σ 200 20 420 246 := ⟨by decide, by decide, by decide, fun h => by omega⟩
theorem a_247 {σ : zS} : zAr σ 200 20 420 247 := ⟨by decide, by decide, by decide, fun h => by omega⟩
theorem a_248 {σ : zS} : zAr σ 200 25 2 248 := ⟨by decide, by decide, by decide, fun h => by omega⟩
theorem a_249 {σ : zS} : zAr σ 200 20 13 249 := ⟨by decide, by decide, by decide, fun h => by omega⟩
theorem a_250 {σ : zS} : zAr σ 200 20 13 250 := ⟨by decide, by decide, by decide, fun h => by omega⟩
theorem a_251 {σ : zS} : zAr σ 200 25 2 251 := ⟨by decide, by decide, by decide, fun h => by omega⟩
theorem a_252 {σ : zS} : zAr σ 200 20 13 252 := ⟨by decide, by decide, by decide, fun h => by omega⟩
theorem a_253 {σ : zS} : zAr σ 200 20 13 253 := ⟨by decide, by decide, by decide, fun h => by omega⟩
theorem a_254 {σ : zS} : zAr σ 200 25 2 254 := ⟨by decide, by decide, by decide, fun h => by omega⟩
theorem a_255 {σ : zS} : zAr σ 200 20 13 255 := ⟨by decide, by decide, by decide, fun h => by omega⟩
theorem a_256 {σ : zS} : zAr σ 200 20 13 256 := ⟨by decide, by decide, by decide, fun h => by omega⟩
theorem a_257 {σ : zS} : zAr σ 200 20 2 257 := ⟨by decide, by decide, by decide, fun h => by omega⟩
theorem a_258 {σ : zS} : zAr σ 200 20 2 258 := ⟨by decide, by decide, by decide, fun h => by omega⟩
theorem a_259 {σ : zS} : zAr σ 200 22 2 259 := ⟨by decide, by decide, by decide, fun h => by omega⟩
theorem a_260 {σ : zS} : zAr σ 200 20 420 260 := ⟨by decide, by decide, by decide, fun h => by omega⟩
theorem a_261 {σ : zS} : zAr σ 200 20 7 261 := ⟨by decide, by decide, by decide, fun h => by omega⟩
theorem a_262 {σ : zS} : zAr σ 200 26 7 262 := ⟨by decide, by decide, by decide, fun h => by omega⟩
theorem a_263 {σ : zS} : zAr σ 200 26 7 263 := ⟨by decide, by decide, by decide, fun h => by omega⟩
theorem zk_Te : ∀ o, o < 264 → 104 ≤ o → o < 164 → zk o = 6 := by decide +kernel
theorem i_Te {σ : zS} {o : Nat} (h : 104 ≤ o ∧ o < 164) : zIs σ 200 5 o := ⟨zCl5, zk_Te o (by omega) h.1 h.2, by omega, fun q => by omega⟩
theorem zk_Th : ∀ o, o < 264 → 92 ≤ o → o < 104 → zk o = 7 := by decide +kernel
theorem i_Th {σ : zS} {o : Nat} (h : 92 ≤ o ∧ o < 104) : zIs σ 200 6 o := ⟨zCl6, zk_Th o (by omega) h.1 h.2, by omega, fun q => by omega⟩
theorem zk_row : ∀ o, o < 264 → 183 ≤ o → o < 243 → zk o = 20 ∧ zn o = 9 := by decide +kernel
theorem a_row {σ : zS} {o : Nat} (h : 183 ≤ o ∧ o < 243) : zAr σ 200 20 9 o := ⟨(zk_row o (by omega) h.1 h.2).1, (zk_row o (by omega) h.1 h.2).2, by omega, fun q => by omega⟩
theorem zk_mk : ∀ o, o < 264 → 246 ≤ o → o < 248 → zk o = 20 ∧ zn o = 420 := by decide +kernel
theorem a_mk {σ : zS} {o : Nat} (h : 246 ≤ o ∧ o < 248) : zAr σ 200 20 420 o := ⟨(zk_mk o (by omega) h.1 h.2).1, (zk_mk o (by omega) h.1 h.2).2, by omega, fun q => by omega⟩
theorem zk_bg : ∀ o, o < 264 → 249 ≤ o → o < 251 → zk o = 20 ∧ zn o = 13 := by decide +kernel
theorem a_bg {σ : zS} {o : Nat} (h : 249 ≤ o ∧ o < 251) : zAr σ 200 20 13 o := ⟨(zk_bg o (by omega) h.1 h.2).1, (zk_bg o (by omega) h.1 h.2).2, by omega, fun q => by omega⟩
theorem zk_mn : ∀ o, o < 264 → 252 ≤ o → o < 254 → zk o = 20 ∧ zn o = 13 := by decide +kernel
theorem a_mn {σ : zS} {o : Nat} (h : 252 ≤ o ∧ o < 254) : zAr σ 200 20 13 o := ⟨(zk_mn o (by omega) h.1 h.2).1, (zk_mn o (by omega) h.1 h.2).2, by omega, fun q => by omega⟩
theorem zk_sy : ∀ o, o < 264 → 255 ≤ o → o < 257 → zk o = 20 ∧ zn o = 13 := by decide +kernel
theorem a_sy {σ : zS} {o : Nat} (h : 255 ≤ o ∧ o < 257) : zAr σ 200 20 13 o := ⟨(zk_sy o (by omega) h.1 h.2).1, (zk_sy o (by omega) h.1 h.2).2, by omega, fun q => by omega⟩
theorem i_Ru {σ : zS} {o : Nat} (h : o = 79 ∨ o = 85) : zIs σ 200 3 o := by
  rcases h with rfl | rfl
  · exact i_79
  · exact i_85
theorem a_Ru1 {σ : zS} {o : Nat} (h : o = 79 ∨ o = 85) : zAr σ 200 20 400 (o + 1) := by
  rcases h with rfl | rfl
  · exact a_80
  · exact a_86
theorem r_Ru1 {s : zS} {o : Nat} (hR : zRok s) (h : o = 79 ∨ o = 85) : s.2.2.1 o 0 = o + 1 := by
  rcases h with rfl | rfl
  · exact r_79_0 hR
  · exact r_85_0 hR
theorem a_Ru2 {σ : zS} {o : Nat} (h : o = 79 ∨ o = 85) : zAr σ 200 20 12 (o + 2) := by
  rcases h with rfl | rfl
  · exact a_81
  · exact a_87
theorem r_Ru2 {s : zS} {o : Nat} (hR : zRok s) (h : o = 79 ∨ o = 85) : s.2.2.1 o 6 = o + 2 := by
  rcases h with rfl | rfl
  · exact r_79_6 hR
  · exact r_85_6 hR
theorem a_Ru3 {σ : zS} {o : Nat} (h : o = 79 ∨ o = 85) : zAr σ 200 20 12 (o + 3) := by
  rcases h with rfl | rfl
  · exact a_82
  · exact a_88
theorem r_Ru3 {s : zS} {o : Nat} (hR : zRok s) (h : o = 79 ∨ o = 85) : s.2.2.1 o 7 = o + 3 := by
  rcases h with rfl | rfl
  · exact r_79_7 hR
  · exact r_85_7 hR
theorem a_Ru4 {σ : zS} {o : Nat} (h : o = 79 ∨ o = 85) : zAr σ 200 20 12 (o + 4) := by
  rcases h with rfl | rfl
  · exact a_83
  · exact a_89
theorem r_Ru4 {s : zS} {o : Nat} (hR : zRok s) (h : o = 79 ∨ o = 85) : s.2.2.1 o 8 = o + 4 := by
  rcases h with rfl | rfl
  · exact r_79_8 hR
  · exact r_85_8 hR
theorem a_Ru5 {σ : zS} {o : Nat} (h : o = 79 ∨ o = 85) : zAr σ 200 20 24 (o + 5) := by
  rcases h with rfl | rfl
  · exact a_84
  · exact a_90
theorem r_Ru5 {s : zS} {o : Nat} (hR : zRok s) (h : o = 79 ∨ o = 85) : s.2.2.1 o 9 = o + 5 := by
  rcases h with rfl | rfl
  · exact r_79_9 hR
  · exact r_85_9 hR
/-! ===== small rows that the printed runs use ===== -/
theorem zI_eq {σ : zS} {o k : Nat} {v : Int32} : (zI σ o k v).1 o k = v := by simp [zI]
theorem zI_o {σ : zS} {o k p q : Nat} {v : Int32} (h : ¬ p = o) : (zI σ o k v).1 p q = σ.1 p q := by simp [zI, h]
theorem zI_k {σ : zS} {o k p q : Nat} {v : Int32} (h : ¬ q = k) : (zI σ o k v).1 p q = σ.1 p q := by simp [zI, h]
theorem zLg_eq {σ : zS} {o k : Nat} {v : Int64} : (zLg σ o k v).2.1 o k = v := by simp [zLg]
theorem zLg_o {σ : zS} {o k p q : Nat} {v : Int64} (h : ¬ p = o) : (zLg σ o k v).2.1 p q = σ.2.1 p q := by simp [zLg, h]
theorem zLg_k {σ : zS} {o k p q : Nat} {v : Int64} (h : ¬ q = k) : (zLg σ o k v).2.1 p q = σ.2.1 p q := by simp [zLg, h]
theorem zit {c : Prop} [Decidable c] {a b : Prop} (h : if c then a else b) (hc : c) : a := by rwa [if_pos hc] at h
theorem zif {c : Prop} [Decidable c] {a b : Prop} (h : if c then a else b) (hc : ¬ c) : b := by rwa [if_neg hc] at h
theorem zN200 {n : Nat} : 200 ≤ n → n ≤ 200 → n = 200 := fun a b => Nat.le_antisymm b a
theorem zy200 {n : Nat} : 200 ≤ n → n ≤ 200 → n = 200 ∧ 200 ≤ 200 ∧ 200 ≤ 200 := fun a b => ⟨Nat.le_antisymm b a, Nat.le_refl _, Nat.le_refl _⟩
theorem zb_nar (b : Bool) : narrow .boolean (.int (zb b)) = .int (zb b) := by cases b <;> rfl
theorem zb_fits (b : Bool) : fits .boolean (.int (zb b)) = true := by cases b <;> rfl
theorem zb_0 {b : Bool} : zb b = 0 ↔ b = false := by cases b <;> decide
theorem zb_1 {b : Bool} : zb b = 1 ↔ b = true := by cases b <;> decide
section ZF
variable {l : Launch} {g : zG} {d z0 z1 : Nat} {M : zM} {pc pn : Nat} {ls st : List Value} {σ : zS} {K : Option Value → zS → Prop}
theorem z_ifb_eq {b : Bool} {off : Int} {pt : Nat} (hd : decode M.2.1 pc = .ok (.ifCond .eq off, 3)) (ht : (pc : Int) + off = (pt : Int)) (hn : pc + 3 = pn) (kt : b = false → zAt l g d z0 z1 M pt ls st σ K) (kf : b = true → zAt l g d z0 z1 M pn ls st σ K) : zAt l g d z0 z1 M pc ls (.int (zb b) :: st) σ K :=
  z_if_eq hd ht hn (fun h => kt (zb_0.mp h)) (fun h => kf (by cases b with
  | false => exact absurd rfl h
  | true => rfl))
theorem z_ifb_ne {b : Bool} {off : Int} {pt : Nat} (hd : decode M.2.1 pc = .ok (.ifCond .ne off, 3)) (ht : (pc : Int) + off = (pt : Int)) (hn : pc + 3 = pn) (kt : b = true → zAt l g d z0 z1 M pt ls st σ K) (kf : b = false → zAt l g d z0 z1 M pn ls st σ K) : zAt l g d z0 z1 M pc ls (.int (zb b) :: st) σ K :=
  z_if_ne hd ht hn (fun h => kt (by cases b with
  | false => exact absurd rfl h
  | true => rfl)) (fun h => kf (zb_0.mp h))
theorem z_swout {x : Int32} (lo : Int) (n : Nat) (h : ∀ j : Nat, j < n → ¬ x = Int32.ofInt (lo + j)) {hi : Int} (hh : hi = lo + n - 1 := by decide) : x.toInt < lo ∨ hi < x.toInt := by
  by_cases a : x.toInt < lo
  · exact Or.inl a
  · refine Or.inr (Int.not_le.mp fun b => h (x.toInt - lo).toNat (by omega) ?_)
    rw [show lo + ((x.toInt - lo).toNat : Int) = x.toInt by omega, Int32.ofInt_toInt]
theorem z_lkout {x df : Int} : ∀ {ps : List (Int × Int)}, (∀ q ∈ ps, ¬ x = q.1) → Op.lookupswitch.offset ps df x = df
  | [], _ => rfl
  | (a, o) :: r, h => by
    rw [Op.lookupswitch.offset_cons, if_neg (fun e => h (a, o) List.mem_cons_self e.symm)]
    exact z_lkout (fun q hq => h q (List.mem_cons_of_mem _ hq))
theorem zincn {x : Int32} {n : Int} {m : Int32} (h : Int32.ofInt n = -m) : x + Int32.ofInt n = x - m := by rw [h, Int32.sub_eq_add_neg]
theorem z_toInt_ne {x y : Int32} {a : Int} (ha : y.toInt = a) (h : ¬ x = y) : ¬ x.toInt = a := fun e => h (Int32.toInt_inj.mp (e.trans ha.symm))
theorem z_pop {a : Value} (hd : decode M.2.1 pc = .ok (.pop, 1)) (ha : a.category = 1) (hn : pc + 1 = pn) (k : zAt l g d z0 z1 M pn ls st σ K) : zAt l g d z0 z1 M pc ls (a :: st) σ K := by
  subst hn
  intro p e R s m args below meth c Q C H locs mls h1 h2 h3 h4 h5
  exact lv_pop C.1 C.2.1 hd ((zmv_cat g a).trans ha) (k p e R s m args below meth c Q C H locs mls h1 h2 h3 h4 h5)
/-! texts -/
theorem zad_lo {o : Nat} (h : o < 64) : zad g o = g.2.2.2.1 o := if_pos h
theorem z_ldcS {i idx : Nat} (hi : i < 20) (ho : (zSo i).1 = M.1.cls) (hx : (zSo i).2.1 = idx) (hd : decode M.2.1 pc = .ok (.ldc idx, 2)) (hn : pc + 2 = pn) (k : zAt l g d z0 z1 M pn ls (.ref (2 + i) :: st) σ K) : zAt l g d z0 z1 M pc ls st σ K := by
  subst hn
  subst hx
  intro p e R s m args below meth c Q C H locs mls h1 h2 h3 h4 h5
  have hZ := C.2.2.2.2.2.2.1.2.2.2.1 i hi
  rw [ho] at hZ
  have k9 := k p e R s m args below meth c Q C H locs mls h1 h2 h3 h4 h5
  have e9 : zmv g (.ref (2 + i)) = .ref (g.2.2.2.1 (2 + i)) := by show Value.ref _ = _; rw [zad_lo (by omega)]
  rw [List.map_cons, e9] at k9
  exact va_ldcS C.1 C.2.1 C.2.2.2.2.1 hZ hd k9
theorem zz_ldcw {p : Program} {e : Env} {R : Room} {s : State} {m : MethodId} {args : Array Value} {below : List Frame} {meth : Method} {c : Code} {T : State} {locs : List Loc} {cells slots : Nat} (X : Stand p l e R s m args below meth c T locs cells slots) (hexec : p.tables.exec = Jvm.exec) {own text : String} {idx : Nat} {a : Addr} {A : Array Value} {U : State} (hUv : U.vm = s.vm) (hown : s.vm.findClass own = some m.cls)
    (hconst : (Cond.stringRef own idx text).before A s = true) (hev : (Term.string own idx).eval A s none [] s = some (.ref a)) {g9 : JFrame} (hg : g9.method = m) (hdg : decode c.code g9.pc = .ok (.ldc_w idx, 3)) :
    ∀ target, Steps p.tables e below (T.setTop { g9 with pc := g9.pc + 3, stack := .ref a :: g9.stack }) target → Steps p.tables e below (T.setTop g9) target := by
  obtain ⟨k, cf, i, a', hk, hcf, hcp, -, hr, hev'⟩ := Cond.stringRef_spec hown hconst
  cases hev.symm.trans hev'
  obtain ⟨k', hk', he⟩ := X.warmed.alike.2.2 _ _ hk
  have hr' : k'.resolved[idx]? = some (some (.string a)) := by
    rcases X.warmed.entry hk hk' idx with h | ⟨h, -⟩
    · rw [h]; exact hr
    · rw [hr] at h; cases h
  intro target hrest
  subst hg
  jvm_step X.here [hexec, hdg, ldc_w.wp_string (e := e) (s := T) (f := g9) X.here.top hk' (by rw [he]; exact hcf) hcp hr']
  exact hrest
theorem z_ldcSw {i idx : Nat} (hi : i < 20) (ho : (zSo i).1 = M.1.cls) (hx : (zSo i).2.1 = idx) (hd : decode M.2.1 pc = .ok (.ldc_w idx, 3)) (hn : pc + 3 = pn) (k : zAt l g d z0 z1 M pn ls (.ref (2 + i) :: st) σ K) : zAt l g d z0 z1 M pc ls st σ K := by
  subst hn
  subst hx
  intro p e R s m args below meth c Q C H locs mls h1 h2 h3 h4 h5
  have hZ := C.2.2.2.2.2.2.1.2.2.2.1 i hi
  rw [ho] at hZ
  have k9 := k p e R s m args below meth c Q C H locs mls h1 h2 h3 h4 h5
  have e9 : zmv g (.ref (2 + i)) = .ref (g.2.2.2.1 (2 + i)) := by show Value.ref _ = _; rw [zad_lo (by omega)]
  rw [List.map_cons, e9] at k9
  intro T hT X
  obtain ⟨t, a1, b1⟩ := k9 T hT X
  exact ⟨t, zz_ldcw X C.1 (U := s) rfl C.2.2.2.2.1 hZ.1 hZ.2 (g9 := F0 m pc mls (st.map (zmv g))) rfl (by rw [C.2.1]; exact hd) t a1, b1⟩
theorem zRec_s {i : Nat} (hi : i < 20) : zRec g z0 σ (2 + i) "java/lang/String" := fun s H locs hK hW hz hS => by
  rw [zad_lo (by omega)]
  have h9 := vk_recv (i := i) (adK := fun i => g.2.2.2.1 (2 + i)) hK.2.2.1 hi hS
  exact h9
theorem z_sgetV {i idx : Nat} (hi : i < 20) (hl : Cond.fieldLink M.1.cls idx "java/lang/String" "value" "[B" ∈ lw_g) (hd : decode M.2.1 pc = .ok (.getfield idx, 3)) (hn : pc + 3 = pn) (k : zAt l g d z0 z1 M pn ls (.ref (22 + i) :: st) σ K) : zAt l g d z0 z1 M pc ls (.ref (2 + i) :: st) σ K := by
  subst hn
  intro p e R s m args below meth c Q C H locs mls h1 h2 h3 h4 h5
  have k9 := k p e R s m args below meth c Q C H locs mls h1 h2 h3 h4 h5
  have e1 : zmv g (.ref (2 + i)) = .ref (g.2.2.2.1 (2 + i)) := by show Value.ref _ = _; rw [zad_lo (by omega)]
  have e2 : zmv g (.ref (22 + i)) = .ref (g.2.2.2.1 (22 + i)) := by show Value.ref _ = _; rw [zad_lo (by omega)]
  rw [List.map_cons, e2] at k9
  rw [List.map_cons, e1]
  exact vk_getf C.1 C.2.1 (C.2.2.2.2.2.2.1.2.2.1.1 i hi).2.2.1 h4 C.2.2.2.2.1 (C.2.2.2.1 _ hl) (fun _ q => q) hd k9
theorem z_sgetC {i idx : Nat} (hi : i < 20) (hl : Cond.fieldLink M.1.cls idx "java/lang/String" "coder" "B" ∈ lw_g) (hd : decode M.2.1 pc = .ok (.getfield idx, 3)) (hn : pc + 3 = pn) (k : zAt l g d z0 z1 M pn ls (.int 0 :: st) σ K) : zAt l g d z0 z1 M pc ls (.ref (2 + i) :: st) σ K := by
  subst hn
  intro p e R s m args below meth c Q C H locs mls h1 h2 h3 h4 h5
  have k9 := k p e R s m args below meth c Q C H locs mls h1 h2 h3 h4 h5
  have e1 : zmv g (.ref (2 + i)) = .ref (g.2.2.2.1 (2 + i)) := by show Value.ref _ = _; rw [zad_lo (by omega)]
  rw [List.map_cons, e1]
  exact vk_getf C.1 C.2.1 (C.2.2.2.2.2.2.1.2.2.1.1 i hi).2.1 h4 C.2.2.2.2.1 (C.2.2.2.1 _ hl) (fun _ q => q) hd k9
def zslen (i : Nat) : Int32 := Int32.ofNat (zSl.getD i 0)
def zsby (i k : Nat) : Int32 := (zSb.getD i []).getD k 0
theorem z_salen {i : Nat} (hi : i < 20) (hd : decode M.2.1 pc = .ok (.arraylength, 1)) (hn : pc + 1 = pn) (k : zAt l g d z0 z1 M pn ls (.int (zslen i) :: st) σ K) : zAt l g d z0 z1 M pc ls (.ref (22 + i) :: st) σ K := by
  subst hn
  intro p e R s m args below meth c Q C H locs mls h1 h2 h3 h4 h5
  have k9 := k p e R s m args below meth c Q C H locs mls h1 h2 h3 h4 h5
  have e2 : zmv g (.ref (22 + i)) = .ref (g.2.2.2.1 (22 + i)) := by show Value.ref _ = _; rw [zad_lo (by omega)]
  rw [List.map_cons, e2]
  exact va_tlen C.1 C.2.1 (C.2.2.2.2.2.2.1.2.2.1.1 i hi).2.2.2 h4 rfl hd k9
theorem z_sbald {i : Nat} {x : Int32} (hi : i < 20) (hin : vp_in x (zSl.getD i 0)) (hd : decode M.2.1 pc = .ok (.baload, 1)) (hn : pc + 1 = pn) (k : zAt l g d z0 z1 M pn ls (.int (zsby i x.toNatClampNeg) :: st) σ K) : zAt l g d z0 z1 M pc ls (.int x :: .ref (22 + i) :: st) σ K := by
  subst hn
  intro p e R s m args below meth c Q C H locs mls h1 h2 h3 h4 h5
  have k9 := k p e R s m args below meth c Q C H locs mls h1 h2 h3 h4 h5
  have e2 : zmv g (.ref (22 + i)) = .ref (g.2.2.2.1 (22 + i)) := by show Value.ref _ = _; rw [zad_lo (by omega)]
  rw [List.map_cons, List.map_cons, e2]
  exact va_tb C.1 C.2.1 (C.2.2.2.2.2.2.1.2.2.1.1 i hi).2.2.2 h4 hin (v := .int (zsby i x.toNatClampNeg)) rfl hd k9
theorem z_getC {idx : Nat} (hl : Cond.fieldLink M.1.cls idx "java/lang/String" "COMPACT_STRINGS" "Z" ∈ lw_g) (hd : decode M.2.1 pc = .ok (.getstatic idx, 3)) (hn : pc + 3 = pn) (k : zAt l g d z0 z1 M pn ls (.int 1 :: st) σ K) : zAt l g d z0 z1 M pc ls st σ K := by
  subst hn
  intro p e R s m args below meth c Q C H locs mls h1 h2 h3 h4 h5
  exact va_gets C.1 C.2.1 C.2.2.2.2.2.2.1.2.2.2.2.1 h4 C.2.2.2.2.1 (C.2.2.2.1 _ hl) (fun _ q => q) hd (k p e R s m args below meth c Q C H locs mls h1 h2 h3 h4 h5)
theorem z_getF {idx : Nat} (hl : Cond.fieldLink M.1.cls idx "jdk/internal/util/Preconditions" "SIOOBE_FORMATTER" "Ljava/util/function/BiFunction;" ∈ lw_g) (hd : decode M.2.1 pc = .ok (.getstatic idx, 3)) (hn : pc + 3 = pn) (k : ∀ v, v = .null ∨ v = .ref 63 → zAt l g d z0 z1 M pn ls (v :: st) σ K) : zAt l g d z0 z1 M pc ls st σ K := by
  subst hn
  intro p e R s m args below meth c Q C H locs mls h1 h2 h3 h4 h5
  rcases C.2.2.2.2.2.2.1.2.2.2.2.2.1 with h | h
  · exact va_gets C.1 C.2.1 h h4 C.2.2.2.2.1 (C.2.2.2.1 _ hl) (fun _ q => q) hd (k .null (Or.inl rfl) p e R s m args below meth c Q C H locs mls h1 h2 h3 h4 h5)
  · exact va_gets C.1 C.2.1 h h4 C.2.2.2.2.1 (C.2.2.2.1 _ hl) (fun _ q => q) hd (k (.ref 63) (Or.inr rfl) p e R s m args below meth c Q C H locs mls h1 h2 h3 h4 h5)
theorem z_scrl {v : Int32} (hv : Int32.ofNat g.2.2.2.2.1 = v) (hd : decode M.2.1 pc = .ok (.arraylength, 1)) (hn : pc + 1 = pn) (k : zAt l g d z0 z1 M pn ls (.int v :: st) σ K) : zAt l g d z0 z1 M pc ls (.ref 1 :: st) σ K := by
  subst hn
  subst hv
  intro p e R s m args below meth c Q C H locs mls h1 h2 h3 h4 h5
  have hX := C.2.2.2.2.2.2.1.2.2.2.2.2.2
  have k9 := k p e R s m args below meth c Q C H locs mls h1 h2 h3 h4 h5
  have e1 : zmv g (.ref 1) = .ref (g.2.2.2.1 1) := by show Value.ref _ = _; rw [zad_lo (by omega)]
  rw [List.map_cons, e1]
  exact va_slen C.1 C.2.1 hX.1 (zX_lt hX.1) hX.2.1 h4 hd k9
theorem z_scr {i x : Int32} (hx : g.2.2.2.2.2 i.toNatClampNeg = x) (hin : vp_in i g.2.2.2.2.1) (hd : decode M.2.1 pc = .ok (.iaload, 1)) (hn : pc + 1 = pn) (k : zAt l g d z0 z1 M pn ls (.int x :: st) σ K) : zAt l g d z0 z1 M pc ls (.int i :: .ref 1 :: st) σ K := by
  subst hn
  subst hx
  intro p e R s m args below meth c Q C H locs mls h1 h2 h3 h4 h5
  have hX := C.2.2.2.2.2.2.1.2.2.2.2.2.2
  have k9 := k p e R s m args below meth c Q C H locs mls h1 h2 h3 h4 h5
  have e1 : zmv g (.ref 1) = .ref (g.2.2.2.1 1) := by show Value.ref _ = _; rw [zad_lo (by omega)]
  rw [List.map_cons, List.map_cons, e1]
  exact va_sld C.1 C.2.1 hX.1 (zX_lt hX.1) hX.2.1 h4 hin hd k9
end ZF
