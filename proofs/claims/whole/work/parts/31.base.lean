/-! ===== frames, and what can be ===== -/
/-- only cells of S may differ -/
def zE (S : Nat → Nat → Prop) (s s' : zS) : Prop := s'.2 = s.2 ∧ ∀ o k, ¬ S o k → s'.1 o k = s.1 o k
theorem zE_r {S : Nat → Nat → Prop} {s : zS} : zE S s s := ⟨rfl, fun _ _ _ => rfl⟩
theorem zE_t {S : Nat → Nat → Prop} {a b c : zS} (h1 : zE S a b) (h2 : zE S b c) : zE S a c := ⟨h2.1.trans h1.1, fun o k h => (h2.2 o k h).trans (h1.2 o k h)⟩
theorem zE_m {S T : Nat → Nat → Prop} {a b : zS} (h : zE S a b) (hm : ∀ o k, S o k → T o k) : zE T a b := ⟨h.1, fun o k q => h.2 o k (fun w => q (hm o k w))⟩
theorem zE_R {S : Nat → Nat → Prop} {a b : zS} (h : zE S a b) : b.2.2.1 = a.2.2.1 := by rw [h.1]
theorem zE_K {S : Nat → Nat → Prop} {a b : zS} (h : zE S a b) (hR : zRok a) : zRok b := zRok_of (zE_R h) hR
theorem zE_i {S : Nat → Nat → Prop} {a b : zS} (h : zE S a b) {o k : Nat} {v : Int32} (hs : S o k) : zE S a (zI b o k v) :=
  ⟨h.1, fun p q hn => by
    have : ¬ (p = o ∧ q = k) := fun w => hn (by rw [w.1, w.2]; exact hs)
    show (if p = o ∧ q = k then v else b.1 p q) = a.1 p q
    rw [if_neg this]
    exact h.2 p q hn⟩
theorem zE_i0 {S : Nat → Nat → Prop} {a : zS} {o k : Nat} {v : Int32} (hs : S o k) : zE S a (zI a o k v) := zE_i zE_r hs
theorem zI_R (a : zS) (o k : Nat) (v : Int32) : (zI a o k v).2 = a.2 := rfl
theorem zI_1 (a : zS) (o k : Nat) (v : Int32) (p q : Nat) : (zI a o k v).1 p q = if p = o ∧ q = k then v else a.1 p q := rfl
theorem if2 {α : Type} {K : Bool → α → Prop} {s : α} {c1 c2 : Prop} [Decidable c1] [Decidable c2] {b : Bool} (hb : b = true ↔ ¬ c1 ∧ ¬ c2) (h : K b s) : if c1 then K false s else if c2 then K false s else K true s := by
  by_cases q1 : c1
  · rw [if_pos q1]; rwa [show b = false by cases b <;> simp_all] at h
  · rw [if_neg q1]
    by_cases q2 : c2
    · rw [if_pos q2]; rwa [show b = false by cases b <;> simp_all] at h
    · rw [if_neg q2]; rwa [show b = true from hb.mpr ⟨q1, q2⟩] at h
/-- "min minutes": first and last, as one number -/
def bSpan (m : Int32) : Bool := bR 0 2147483647 m && bR 0 239 (m / 1000) && bR 0 239 (m % 1000) && decide ((m / 1000).toInt ≤ (m % 1000).toInt)
def bSpeed (m : Int32) : Bool := bR 0 2147483647 m && bR 0 40 (m / 100) && bR 0 40 (m % 100)
def bLights (m : Int32) : Bool := bR 1 9 (m % 10) && bR 0 1 (m / 10) && bR 0 2147483647 m
theorem til : (0 : Int32).toInt = 0 ∧ (1 : Int32).toInt = 1 ∧ (2 : Int32).toInt = 2 ∧ (3 : Int32).toInt = 3 ∧ (4 : Int32).toInt = 4 ∧ (5 : Int32).toInt = 5 ∧ (6 : Int32).toInt = 6 ∧ (7 : Int32).toInt = 7 ∧ (8 : Int32).toInt = 8 ∧ (9 : Int32).toInt = 9 ∧ (10 : Int32).toInt = 10 ∧ (11 : Int32).toInt = 11 ∧ (12 : Int32).toInt = 12 ∧ (13 : Int32).toInt = 13 ∧ (16 : Int32).toInt = 16 ∧ (19 : Int32).toInt = 19 ∧ (20 : Int32).toInt = 20 ∧ (23 : Int32).toInt = 23 ∧ (24 : Int32).toInt = 24 ∧ (30 : Int32).toInt = 30 ∧ (31 : Int32).toInt = 31 ∧ (32 : Int32).toInt = 32 ∧ (39 : Int32).toInt = 39 ∧ (40 : Int32).toInt = 40 ∧ (48 : Int32).toInt = 48 ∧ (57 : Int32).toInt = 57 ∧ (60 : Int32).toInt = 60 ∧ (63 : Int32).toInt = 63 ∧ (64 : Int32).toInt = 64 ∧ (97 : Int32).toInt = 97 ∧ (99 : Int32).toInt = 99 ∧ (100 : Int32).toInt = 100 ∧ (122 : Int32).toInt = 122 ∧ (128 : Int32).toInt = 128 ∧ (192 : Int32).toInt = 192 ∧ (199 : Int32).toInt = 199 ∧ (200 : Int32).toInt = 200 ∧ (239 : Int32).toInt = 239 ∧ (240 : Int32).toInt = 240 ∧ (255 : Int32).toInt = 255 ∧ (256 : Int32).toInt = 256 ∧ (300 : Int32).toInt = 300 ∧ (400 : Int32).toInt = 400 ∧ (401 : Int32).toInt = 401 ∧ (419 : Int32).toInt = 419 ∧ (420 : Int32).toInt = 420 ∧ (999 : Int32).toInt = 999 ∧ (1000 : Int32).toInt = 1000 ∧ (1999 : Int32).toInt = 1999 ∧ (4095 : Int32).toInt = 4095 ∧ (4096 : Int32).toInt = 4096 ∧ (9999 : Int32).toInt = 9999 ∧ (10000 : Int32).toInt = 10000 ∧ (10003 : Int32).toInt = 10003 ∧ (10004 : Int32).toInt = 10004 ∧ (10011 : Int32).toInt = 10011 ∧ (10018 : Int32).toInt = 10018 ∧ (20001 : Int32).toInt = 20001 ∧ (20002 : Int32).toInt = 20002 ∧ (20003 : Int32).toInt = 20003 ∧ (20004 : Int32).toInt = 20004 ∧ (20005 : Int32).toInt = 20005 ∧ (20006 : Int32).toInt = 20006 ∧ (20040 : Int32).toInt = 20040 ∧ (20041 : Int32).toInt = 20041 ∧ (20042 : Int32).toInt = 20042 ∧ (20043 : Int32).toInt = 20043 ∧ (20045 : Int32).toInt = 20045 ∧ (20059 : Int32).toInt = 20059 ∧ (20060 : Int32).toInt = 20060 ∧ (20061 : Int32).toInt = 20061 ∧ (30000 : Int32).toInt = 30000 ∧ (30001 : Int32).toInt = 30001 ∧ (255999 : Int32).toInt = 255999 ∧ (1000000 : Int32).toInt = 1000000 ∧ (-1 : Int32).toInt = -1 ∧ (-9 : Int32).toInt = -9 ∧ (-999 : Int32).toInt = -999 ∧ (-1000000 : Int32).toInt = -1000000 ∧ (-2147483648 : Int32).toInt = -2147483648 := by
  refine ⟨rfl, rfl, rfl, rfl, rfl, rfl, rfl, rfl, rfl, rfl, rfl, rfl, rfl, rfl, rfl, rfl, rfl, rfl, rfl, rfl, rfl, rfl, rfl, rfl, rfl, rfl, rfl, rfl, rfl, rfl, rfl, rfl, rfl, rfl, rfl, rfl, rfl, rfl, rfl, rfl, rfl, rfl, rfl, rfl, rfl, rfl, rfl, rfl, rfl, rfl, rfl, rfl, rfl, rfl, rfl, rfl, rfl, rfl, rfl, rfl, rfl, rfl, rfl, rfl, rfl, rfl, rfl, rfl, rfl, rfl, rfl, rfl, rfl, rfl, rfl, rfl, rfl, rfl, rfl, rfl⟩
theorem tiL : (0 : Int64).toInt = 0 ∧ (1 : Int64).toInt = 1 ∧ (2 : Int64).toInt = 2 ∧ (5 : Int64).toInt = 5 ∧ (8 : Int64).toInt = 8 ∧ (9 : Int64).toInt = 9 ∧ (12 : Int64).toInt = 12 ∧ (19 : Int64).toInt = 19 ∧ (20 : Int64).toInt = 20 ∧ (30 : Int64).toInt = 30 ∧ (40 : Int64).toInt = 40 ∧ (60 : Int64).toInt = 60 ∧ (99 : Int64).toInt = 99 ∧ (239 : Int64).toInt = 239 ∧ (255 : Int64).toInt = 255 ∧ (999 : Int64).toInt = 999 ∧ (4095 : Int64).toInt = 4095 ∧ (10000 : Int64).toInt = 10000 ∧ (32 : Int64).toInt = 32 ∧ (200 : Int64).toInt = 200 ∧ (1000000 : Int64).toInt = 1000000 ∧ (255999 : Int64).toInt = 255999 ∧ (-1 : Int64).toInt = -1 ∧ (-9 : Int64).toInt = -9 := by
  refine ⟨rfl, rfl, rfl, rfl, rfl, rfl, rfl, rfl, rfl, rfl, rfl, rfl, rfl, rfl, rfl, rfl, rfl, rfl, rfl, rfl, rfl, rfl, rfl, rfl⟩
theorem biff {a b : Bool} (h : a = true ↔ b = true) : a = b := by cases a <;> cases b <;> simp_all
section V
variable {l : Launch} {g : zG} {d : Nat} {s : zS} {p p' : Int32} {K : Bool → zS → Prop}
theorem c_isPlace (hR : zRok s) (h : K (bR 0 4095 p) s) : zc l g d M_X7_isPlace [.int p] s (zKz K) :=
  t_X7_isPlace hR (if2 (by simp only [bR_t, ti_lt, ti_le, til]; omega) h)
theorem c_isMinute (hR : zRok s) (h : K (bR 0 239 p) s) : zc l g d M_X7_isMinute [.int p] s (zKz K) :=
  t_X7_isMinute hR (if2 (by simp only [bR_t, ti_lt, ti_le, til]; omega) h)
theorem c_isHeight (hR : zRok s) (h : K (bR 0 255 p) s) : zc l g d M_X7_isHeight [.int p] s (zKz K) :=
  t_X7_isHeight hR (if2 (by simp only [bR_t, ti_lt, ti_le, til]; omega) h)
theorem c_isFall (hR : zRok s) (h : K (bR 0 20 p) s) : zc l g d M_X7_isFall [.int p] s (zKz K) :=
  t_X7_isFall hR (if2 (by simp only [bR_t, ti_lt, ti_le, til]; omega) h)
theorem c_isWay (hR : zRok s) (h : K (bR 0 255 p) s) : zc l g d M_X7_isWay [.int p] s (zKz K) :=
  t_X7_isWay hR (if2 (by simp only [bR_t, ti_lt, ti_le, til]; omega) h)
theorem c_isToldSlope (hR : zRok s) (h : K (bR 0 999 p) s) : zc l g d M_X7_isToldSlope [.int p] s (zKz K) :=
  t_X7_isToldSlope hR (if2 (by simp only [bR_t, ti_lt, ti_le, til]; omega) h)
theorem c_isLights (hR : zRok s) (h : K (bR 1 9 p) s) : zc l g d M_X7_isLights [.int p] s (zKz K) :=
  t_X7_isLights hR (if2 (by simp only [bR_t, ti_lt, ti_le, til]; omega) h)
theorem c_isLater (hR : zRok s) (h : K (bR 0 99 p) s) : zc l g d M_X7_isLater [.int p] s (zKz K) :=
  t_X7_isLater hR (if2 (by simp only [bR_t, ti_lt, ti_le, til]; omega) h)
theorem c_isDirection (hR : zRok s) (h : K (bR 0 255999 p) s) : zc l g d M_X7_isDirection [.int p] s (zKz K) := by
  refine t_X7_isDirection hR (if2 ?_ h)
  by_cases q : 0 ≤ p.toInt
  · simp only [bR_t, ti_lt, ti_le, til, ti_divp q]; omega
  · simp only [bR_t, ti_lt, ti_le, til]; omega
theorem c_isHull (hR : zRok s) (h : K (bR 0 1 p) s) : zc l g d M_X7_isHull [.int p] s (zKz K) := by
  refine t_X7_isHull hR ?_
  simp only [ti_eq, til]
  by_cases q1 : p.toInt = 0
  · rw [if_pos q1]; rwa [show bR 0 1 p = true from bR_t.mpr (by omega)] at h
  · rw [if_neg q1]
    by_cases q2 : p.toInt = 1
    · rw [if_pos q2]; rwa [show bR 0 1 p = true from bR_t.mpr (by omega)] at h
    · rw [if_neg q2]; rwa [show bR 0 1 p = false by rw [Bool.eq_false_iff]; intro w; rw [bR_t] at w; omega] at h
theorem c_isSpan (hR : zRok s) (h : K (bSpan p) s) : zc l g d M_X7_isSpan [.int p] s (zKz K) := by
  refine t_X7_isSpan hR ?_
  by_cases q : 0 ≤ p.toInt
  · have h1 := ti_divp (y := 1000) q
    have h2 := ti_modp (y := 1000) q
    have hr := ti_rng p
    simp only [til] at h1 h2
    simp only [ti_lt, ti_le, til]
    repeat' split
    all_goals first
      | rwa [show bSpan p = false by rw [Bool.eq_false_iff]; simp only [bSpan, ne_eq, Bool.and_eq_true, decide_eq_true_eq, bR_t]; omega] at h
      | rwa [show bSpan p = true by simp only [bSpan, Bool.and_eq_true, decide_eq_true_eq, bR_t]; omega] at h
  · rw [if_pos (by rw [ti_lt, til.1]; omega)]
    rwa [show bSpan p = false by rw [Bool.eq_false_iff]; simp only [bSpan, ne_eq, Bool.and_eq_true, decide_eq_true_eq, bR_t]; omega] at h
theorem c_isSpeed (hR : zRok s) (h : K (bSpeed p) s) : zc l g d M_X7_isSpeed [.int p] s (zKz K) := by
  refine t_X7_isSpeed hR ?_
  by_cases q : 0 ≤ p.toInt
  · have h1 := ti_divp (y := 100) q
    have h2 := ti_modp (y := 100) q
    have hr := ti_rng p
    simp only [til] at h1 h2
    simp only [ti_lt, ti_le, til]
    repeat' split
    all_goals first
      | rwa [show bSpeed p = false by rw [Bool.eq_false_iff]; simp only [bSpeed, ne_eq, Bool.and_eq_true, decide_eq_true_eq, bR_t]; omega] at h
      | rwa [show bSpeed p = true by simp only [bSpeed, Bool.and_eq_true, decide_eq_true_eq, bR_t]; omega] at h
  · rw [if_pos (by rw [ti_lt, til.1]; omega)]
    rwa [show bSpeed p = false by rw [Bool.eq_false_iff]; simp only [bSpeed, ne_eq, Bool.and_eq_true, decide_eq_true_eq, bR_t]; omega] at h
theorem c_isLightsAndHull (hR : zRok s) (h : K (bLights p) s) : zc l g (d + 1) M_X7_isLightsAndHull [.int p] s (zKz K) := by
  refine t_X7_isLightsAndHull hR ?_
  by_cases q : 0 ≤ p.toInt
  · rw [if_neg (by rw [ti_lt, til.1]; omega)]
    refine c_isLights hR ⟨rfl, ?_⟩
    have hr := ti_rng p
    have e3 : bR 0 2147483647 p = true := bR_t.mpr (by omega)
    by_cases q1 : bR 1 9 (p % 10) = true
    · rw [if_pos q1]
      refine c_isHull hR ⟨rfl, ?_⟩
      by_cases q2 : bR 0 1 (p / 10) = true
      · rw [if_pos q2]; rwa [show bLights p = true by rw [bLights, q1, q2, e3]; rfl] at h
      · rw [if_neg q2]; rwa [show bLights p = false by rw [bLights, q1, Bool.eq_false_iff.mpr q2]; rfl] at h
    · rw [if_neg q1]; rwa [show bLights p = false by rw [bLights, Bool.eq_false_iff.mpr q1]; rfl] at h
  · rw [if_pos (by rw [ti_lt, til.1]; omega)]
    rwa [show bLights p = false by rw [bLights, show bR 0 2147483647 p = false by rw [Bool.eq_false_iff]; intro w; rw [bR_t] at w; omega]; simp] at h
end V
