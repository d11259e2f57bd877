/-! ===== rules: bytes, and where tokens stand ===== -/
def chr (I : zM2) (k : Nat) : Nat := (I 76 k).toNatClampNeg
theorem byt : ∀ v : Fin 256, ((Int32.ofInt ((v.val : Int) - 128)) &&& 255).toInt = (if v.val < 128 then (v.val : Int) + 128 else (v.val : Int) - 128) := by decide +kernel
theorem byt_i {x : Int32} (h1 : -128 ≤ x.toInt) (h2 : x.toInt ≤ 127) : (x &&& 255).toInt = if x.toInt < 0 then x.toInt + 256 else x.toInt := by
  have h := byt ⟨(x.toInt + 128).toNat, by omega⟩
  have e : (((x.toInt + 128).toNat : Nat) : Int) - 128 = x.toInt := by omega
  simp only [e] at h
  have ex : Int32.ofInt x.toInt = x := Int32.ofInt_toInt x
  rw [ex] at h
  rw [h]
  by_cases c : x.toInt < 0
  · rw [if_pos c, if_pos (by omega)]; omega
  · rw [if_neg c, if_neg (by omega)]
theorem by_ch {I : zM2} (hX : RelX I) {k : Nat} (hk : k < nX I) : I 76 k = nI (chr I k) ∧ chr I k ≤ 255 ∧ (I 244 k).toInt = (if chr I k < 128 then (chr I k : Int) else (chr I k : Int) - 256) := by
  obtain ⟨a, b, c⟩ := hX.2.2 k hk
  have h := byt_i b c
  rw [← a] at h
  have h0 : 0 ≤ (I 76 k).toInt ∧ (I 76 k).toInt ≤ 255 := by rw [h]; split <;> omega
  have ht : (chr I k : Int) = (I 76 k).toInt := ti_tn h0.1
  refine ⟨ti_of h0.1, by omega, ?_⟩
  by_cases q : (I 244 k).toInt < 0
  · rw [if_pos q] at h
    rw [if_neg (by omega)]; omega
  · rw [if_neg q] at h
    rw [if_pos (by omega)]; omega
def isLt (c : Nat) : Bool := decide (97 ≤ c) && decide (c ≤ 122)
def isDg (c : Nat) : Bool := decide (48 ≤ c) && decide (c ≤ 57)
def isBk (c : Nat) : Bool := decide (c = 32) || decide (c = 10)
theorem isLt_i {c : Nat} : isLt c = true ↔ 97 ≤ c ∧ c ≤ 122 := by unfold isLt; simp
theorem isDg_i {c : Nat} : isDg c = true ↔ 48 ≤ c ∧ c ≤ 57 := by unfold isDg; simp
theorem isBk_i {c : Nat} : isBk c = true ↔ c = 32 ∨ c = 10 := by unfold isBk; simp
def runL (p : Nat → Bool) (f : Nat → Nat) : Nat → Nat → Nat
  | 0, k => k
  | m + 1, k => if p (f k) = true then runL p f m (k + 1) else k
def rn (p : Nat → Bool) (f : Nat → Nat) (n k : Nat) : Nat := runL p f (n - k) k
theorem rn_y {p : Nat → Bool} {f : Nat → Nat} {n k : Nat} (h : k < n) (c : p (f k) = true) : rn p f n k = rn p f n (k + 1) := by
  unfold rn
  have : n - k = (n - (k + 1)) + 1 := by omega
  rw [this]
  show (if p (f k) = true then _ else _) = _
  rw [if_pos c]
theorem rn_n {p : Nat → Bool} {f : Nat → Nat} {n k : Nat} (h : k < n) (c : ¬ p (f k) = true) : rn p f n k = k := by
  unfold rn
  have : n - k = (n - (k + 1)) + 1 := by omega
  rw [this]
  show (if p (f k) = true then _ else _) = _
  rw [if_neg c]
theorem rn_e {p : Nat → Bool} {f : Nat → Nat} {n k : Nat} (h : n ≤ k) : rn p f n k = k := by
  unfold rn
  rw [show n - k = 0 by omega]
  rfl
theorem runL_b {p : Nat → Bool} {f : Nat → Nat} : ∀ m k, k ≤ runL p f m k ∧ runL p f m k ≤ k + m ∧ ∀ j, k ≤ j → j < runL p f m k → p (f j) = true := by
  intro m
  induction m with
  | zero => intro k; exact ⟨Nat.le_refl _, Nat.le_refl _, fun j a b => by have : j < k := b; omega⟩
  | succ m ih =>
    intro k
    unfold runL
    by_cases c : p (f k) = true
    · rw [if_pos c]
      have h := ih (k + 1)
      refine ⟨by omega, by omega, fun j a b => ?_⟩
      by_cases e : j = k
      · rw [e]; exact c
      · exact h.2.2 j (by omega) b
    · rw [if_neg c]
      exact ⟨Nat.le_refl _, by omega, fun j a b => by omega⟩
theorem rn_b {p : Nat → Bool} {f : Nat → Nat} {n k : Nat} (h : k ≤ n) : k ≤ rn p f n k ∧ rn p f n k ≤ n ∧ ∀ j, k ≤ j → j < rn p f n k → p (f j) = true := by
  have := runL_b (p := p) (f := f) (n - k) k
  exact ⟨this.1, by unfold rn; omega, this.2.2⟩
theorem rn_stop {p : Nat → Bool} {f : Nat → Nat} {n : Nat} : ∀ m k, k + m = n → rn p f n k < n → ¬ p (f (rn p f n k)) = true := by
  intro m
  induction m with
  | zero => intro k hk h; rw [rn_e (by omega)] at h; omega
  | succ m ih =>
    intro k hk h
    by_cases c : p (f k) = true
    · rw [rn_y (by omega) c] at h ⊢
      exact ih (k + 1) (by omega) h
    · rw [rn_n (by omega) c]; exact c
/-- where the token that begins at k ends -/
def tE (f : Nat → Nat) (n k : Nat) : Nat := if isLt (f k) = true then rn isLt f n (k + 1) else if isDg (f k) = true then rn isDg f n (k + 1) else k + 1
theorem tE_b {f : Nat → Nat} {n k : Nat} (h : k < n) : k + 1 ≤ tE f n k ∧ tE f n k ≤ n := by
  unfold tE
  split
  · have := rn_b (p := isLt) (f := f) (n := n) (k := k + 1) (by omega); omega
  · split
    · have := rn_b (p := isDg) (f := f) (n := n) (k := k + 1) (by omega); omega
    · omega
/-- where token j begins, and ends -/
def stt (f : Nat → Nat) (n : Nat) : Nat → Nat
  | 0 => rn isBk f n 0
  | j + 1 => rn isBk f n (if stt f n j < n then tE f n (stt f n j) else n)
def enn (f : Nat → Nat) (n j : Nat) : Nat := if stt f n j < n then tE f n (stt f n j) else n
theorem stt_s (f : Nat → Nat) (n j : Nat) : stt f n (j + 1) = rn isBk f n (enn f n j) := rfl
theorem stt_b (f : Nat → Nat) (n : Nat) : ∀ j, stt f n j ≤ n ∧ enn f n j ≤ n ∧ (stt f n j < n → j ≤ stt f n j ∧ stt f n j < enn f n j) := by
  have e : ∀ j, stt f n j ≤ n → enn f n j ≤ n ∧ (stt f n j < n → stt f n j < enn f n j) := by
    intro j h
    unfold enn
    by_cases c : stt f n j < n
    · rw [if_pos c]; have := tE_b (f := f) c; exact ⟨this.2, fun _ => this.1⟩
    · rw [if_neg c]; exact ⟨Nat.le_refl _, fun w => absurd w c⟩
  intro j
  induction j with
  | zero =>
    have h := rn_b (p := isBk) (f := f) (n := n) (k := 0) (by omega)
    have h2 := e 0 h.2.1
    exact ⟨h.2.1, h2.1, fun w => ⟨by omega, h2.2 w⟩⟩
  | succ j ih =>
    have h := rn_b (p := isBk) (f := f) (n := n) (k := enn f n j) ih.2.1
    have hs : stt f n (j + 1) ≤ n := h.2.1
    have h2 := e (j + 1) hs
    refine ⟨hs, h2.1, fun w => ⟨?_, h2.2 w⟩⟩
    have h3 : enn f n j ≤ stt f n (j + 1) := h.1
    by_cases c : stt f n j < n
    · have := ih.2.2 c; omega
    · exfalso
      have : enn f n j = n := by unfold enn; rw [if_neg c]
      omega
theorem stt_end {f : Nat → Nat} {n j : Nat} (h : stt f n j = n) : enn f n j = n ∧ stt f n (j + 1) = n := by
  have e : enn f n j = n := by unfold enn; rw [if_neg (by omega)]
  exact ⟨e, by rw [stt_s, e, rn_e (Nat.le_refl _)]⟩
theorem stt_nb {f : Nat → Nat} {n j : Nat} (h : stt f n j < n) : isBk (f (stt f n j)) = false := by
  rw [Bool.eq_false_iff]
  cases j with
  | zero => exact rn_stop (p := isBk) n 0 (by omega) h
  | succ j =>
    have hb := (stt_b f n j).2.1
    exact rn_stop (p := isBk) (n - enn f n j) (enn f n j) (by omega) h
/-! the eighteen words -/
def woff (w : Nat) : Nat := [0, 5, 9, 12, 16, 21, 28, 34, 39, 47, 55, 60, 67, 72, 77, 84, 91, 95, 101].getD w 0
def wlen (w : Nat) : Nat := [4, 3, 2, 3, 4, 6, 5, 4, 7, 7, 4, 6, 4, 4, 6, 6, 3, 5].getD w 0
def wch (w q : Nat) : Nat := (zsch 0 (woff w + q)).toNatClampNeg
theorem w_ok : ∀ w, w < 18 → woff w + wlen w < 101 ∧ woff (w + 1) = woff w + wlen w + 1 ∧ zsch 0 (woff w + wlen w) = 32 ∧ 1 ≤ wlen w ∧ wlen w ≤ 7 ∧ ∀ q, q < wlen w → zsch 0 (woff w + q) = nI (wch w q) ∧ 97 ≤ wch w q ∧ wch w q ≤ 122 := by decide +kernel
theorem w_ne : ∀ w, w < 18 → ∀ v, v < 18 → w = v ∨ wlen w ≠ wlen v ∨ ∃ q, q < wlen w ∧ wch w q ≠ wch v q := by decide +kernel
/-- the text of word i as the reference has it -/
def wsid (w : Nat) : Nat := [16, 17, 18, 19, 2, 3, 4, 5, 6, 7, 8, 9, 10, 11, 12, 13, 14, 15].getD w 0
theorem w_sid : ∀ w, w < 18 → wsid w < 20 ∧ zSl.getD (wsid w) 0 = wlen w ∧ zslen (wsid w) = nI (wlen w) ∧ ∀ q, q < wlen w → zsch (wsid w) q = nI (wch w q) := by decide +kernel
/-- bytes s to e are word w -/
def wm (f : Nat → Nat) (s e w : Nat) : Bool := decide (e = s + wlen w) && decide (∀ q, q < wlen w → f (s + q) = wch w q)
theorem wm_i {f : Nat → Nat} {s e w : Nat} : wm f s e w = true ↔ e = s + wlen w ∧ ∀ q, q < wlen w → f (s + q) = wch w q := by
  unfold wm
  rw [Bool.and_eq_true, decide_eq_true_eq, decide_eq_true_eq]
theorem wm_u {f : Nat → Nat} {s e w v : Nat} (hw : w < 18) (hv : v < 18) (h1 : wm f s e w = true) (h2 : wm f s e v = true) : w = v := by
  rw [wm_i] at h1 h2
  rcases w_ne w hw v hv with h | h | ⟨q, a, b⟩
  · exact h
  · exact absurd (by omega) h
  · exfalso
    have hl : wlen w = wlen v := by omega
    exact b ((h1.2 q a).symm.trans (h2.2 q (by omega)))
def wdL (f : Nat → Nat) (s e : Nat) : Nat → Nat → Int32
  | 0, _ => 30001
  | m + 1, w => if wm f s e w = true then nI (10000 + w) else wdL f s e m (w + 1)
theorem wdL_i {f : Nat → Nat} {s e : Nat} {v : Nat} (hv : v < 18) : ∀ m w, w + m = 18 → (∀ u, u < w → ¬ wm f s e u = true) → (wdL f s e m w = nI (10000 + v) ↔ wm f s e v = true) := by
  intro m
  induction m with
  | zero =>
    intro w hw hn
    constructor
    · intro h
      exfalso
      have h2 : (30001 : Int32) = nI (10000 + v) := h
      rw [show (30001 : Int32) = nI 30001 from rfl, nI_eq (by decide) (by omega)] at h2
      omega
    · intro h
      exact absurd h (hn v (by omega))
  | succ m ih =>
    intro w hw hn
    unfold wdL
    by_cases c : wm f s e w = true
    · rw [if_pos c, nI_eq (by omega) (by omega)]
      constructor
      · intro h
        have : w = v := by omega
        rw [← this]; exact c
      · intro h
        have := wm_u (by omega) hv c h
        omega
    · rw [if_neg c]
      exact ih (w + 1) (by omega) (fun u hu => by
        by_cases q : u = w
        · rw [q]; exact c
        · exact hn u (by omega))
theorem wdL_r {f : Nat → Nat} {s e : Nat} : ∀ m w, w + m = 18 → wdL f s e m w = 30001 ∨ ∃ v, v < 18 ∧ wdL f s e m w = nI (10000 + v) := by
  intro m
  induction m with
  | zero => intro w _; exact Or.inl rfl
  | succ m ih =>
    intro w hw
    unfold wdL
    by_cases c : wm f s e w = true
    · rw [if_pos c]; exact Or.inr ⟨w, by omega, rfl⟩
    · rw [if_neg c]; exact ih (w + 1) (by omega)
def nmL (f : Nat → Nat) : Nat → Nat → Nat → Nat
  | 0, _, v => v
  | m + 1, k, v => nmL f m (k + 1) (min (v * 10 + f k - 48) 10000)
def nmT (f : Nat → Nat) (s e : Nat) : Nat := nmL f (e - s) s 0
theorem nmL_le (f : Nat → Nat) : ∀ m k v, v ≤ 10000 → nmL f m k v ≤ 10000 := by
  intro m
  induction m with
  | zero => intro k v h; exact h
  | succ m ih => intro k v h; exact ih _ _ (by omega)
def isSg (c : Nat) : Bool := decide (c = 43) || decide (c = 45) || decide (c = 42) || decide (c = 60) || decide (c = 61) || decide (c = 40) || decide (c = 41) || decide (c = 59)
theorem sgn : ∀ c : Fin 256, (zsix 1 (((nI c.val).toUInt32 % 65536).toInt32) < 0 ↔ isSg c.val = false) ∧ (20000 : Int32) + nI c.val = nI (20000 + c.val) := by decide +kernel
/-- the token that stands at s, to e -/
def tkv (f : Nat → Nat) (s e : Nat) : Int32 := if isLt (f s) = true then wdL f s e 18 0 else if isDg (f s) = true then (if nmT f s e ≤ 9999 then nI (nmT f s e) else 30001) else if isSg (f s) = true then nI (20000 + f s) else 30001
def tkJ (f : Nat → Nat) (n j : Nat) : Int32 := if stt f n j < n then tkv f (stt f n j) (enn f n j) else 30000
section TJ
variable {f : Nat → Nat} {n j : Nat}
theorem tk_end : tkJ f n j = 30000 ↔ ¬ stt f n j < n := by
  unfold tkJ
  by_cases c : stt f n j < n
  · rw [if_pos c]
    refine ⟨fun h => ?_, fun h => absurd c h⟩
    exfalso
    unfold tkv at h
    rw [show (30000 : Int32) = nI 30000 from rfl] at h
    by_cases c1 : isLt (f (stt f n j)) = true
    · rw [if_pos c1] at h
      rcases wdL_r (f := f) (s := stt f n j) (e := enn f n j) 18 0 rfl with w | ⟨v, a, w⟩
      · rw [w] at h; exact absurd h (by decide)
      · rw [w, nI_eq (by omega) (by decide)] at h; omega
    rw [if_neg c1] at h
    by_cases c2 : isDg (f (stt f n j)) = true
    · rw [if_pos c2] at h
      by_cases c3 : nmT f (stt f n j) (enn f n j) ≤ 9999
      · rw [if_pos c3, nI_eq (by omega) (by decide)] at h; omega
      · rw [if_neg c3] at h; exact absurd h (by decide)
    rw [if_neg c2] at h
    by_cases c3 : isSg (f (stt f n j)) = true
    · rw [if_pos c3] at h
      unfold isSg at c3
      simp at c3
      rw [nI_eq (by omega) (by decide)] at h; omega
    · rw [if_neg c3] at h; exact absurd h (by decide)
  · rw [if_neg c]; exact ⟨fun _ => c, fun _ => rfl⟩
theorem tk_sign {c : Nat} (hc : isSg c = true) : tkJ f n j = nI (20000 + c) ↔ stt f n j < n ∧ f (stt f n j) = c := by
  have hc2 := hc
  unfold isSg at hc2
  simp at hc2
  unfold tkJ
  by_cases c0 : stt f n j < n
  rotate_left
  · rw [if_neg c0]
    refine ⟨fun h => ?_, fun h => absurd h.1 c0⟩
    exfalso
    rw [show (30000 : Int32) = nI 30000 from rfl, nI_eq (by decide) (by omega)] at h
    omega
  rw [if_pos c0]
  unfold tkv
  by_cases c1 : isLt (f (stt f n j)) = true
  · rw [if_pos c1]
    rw [isLt_i] at c1
    refine ⟨fun h => ?_, fun h => by omega⟩
    exfalso
    rcases wdL_r (f := f) (s := stt f n j) (e := enn f n j) 18 0 rfl with w | ⟨v, a, w⟩
    · rw [w, show (30001 : Int32) = nI 30001 from rfl, nI_eq (by decide) (by omega)] at h; omega
    · rw [w, nI_eq (by omega) (by omega)] at h; omega
  rw [if_neg c1]
  by_cases c2 : isDg (f (stt f n j)) = true
  · rw [if_pos c2]
    rw [isDg_i] at c2
    refine ⟨fun h => ?_, fun h => by omega⟩
    exfalso
    by_cases c3 : nmT f (stt f n j) (enn f n j) ≤ 9999
    · rw [if_pos c3, nI_eq (by omega) (by omega)] at h; omega
    · rw [if_neg c3, show (30001 : Int32) = nI 30001 from rfl, nI_eq (by decide) (by omega)] at h; omega
  rw [if_neg c2]
  by_cases c3 : isSg (f (stt f n j)) = true
  · rw [if_pos c3]
    have c4 := c3
    unfold isSg at c4
    simp at c4
    rw [nI_eq (by omega) (by omega)]
    exact ⟨fun h => ⟨c0, by omega⟩, fun h => by omega⟩
  · rw [if_neg c3]
    refine ⟨fun h => ?_, fun h => ?_⟩
    · exfalso
      rw [show (30001 : Int32) = nI 30001 from rfl, nI_eq (by decide) (by omega)] at h
      omega
    · exfalso; rw [h.2] at c3; exact c3 hc
theorem tk_word {w : Nat} (hw : w < 18) : tkJ f n j = nI (10000 + w) ↔ stt f n j < n ∧ wm f (stt f n j) (enn f n j) w = true := by
  unfold tkJ
  by_cases c0 : stt f n j < n
  rotate_left
  · rw [if_neg c0]
    refine ⟨fun h => ?_, fun h => absurd h.1 c0⟩
    exfalso
    rw [show (30000 : Int32) = nI 30000 from rfl, nI_eq (by decide) (by omega)] at h
    omega
  rw [if_pos c0]
  unfold tkv
  by_cases c1 : isLt (f (stt f n j)) = true
  · rw [if_pos c1, wdL_i hw 18 0 rfl (fun u h => by omega)]
    exact ⟨fun h => ⟨c0, h⟩, fun h => h.2⟩
  rw [if_neg c1]
  have no : ¬ wm f (stt f n j) (enn f n j) w = true := by
    intro h
    rw [wm_i] at h
    obtain ⟨-, -, -, l1, -, l3⟩ := w_ok w hw
    have h0 := h.2 0 (by omega)
    have h1 := (l3 0 (by omega)).2
    rw [Nat.add_zero] at h0
    exact c1 (isLt_i.mpr (by omega))
  refine ⟨fun h => ?_, fun h => absurd h.2 no⟩
  exfalso
  by_cases c2 : isDg (f (stt f n j)) = true
  · rw [if_pos c2] at h
    by_cases c3 : nmT f (stt f n j) (enn f n j) ≤ 9999
    · rw [if_pos c3, nI_eq (by omega) (by omega)] at h; omega
    · rw [if_neg c3, show (30001 : Int32) = nI 30001 from rfl, nI_eq (by decide) (by omega)] at h; omega
  rw [if_neg c2] at h
  by_cases c3 : isSg (f (stt f n j)) = true
  · rw [if_pos c3] at h
    unfold isSg at c3
    simp at c3
    rw [nI_eq (by omega) (by omega)] at h; omega
  · rw [if_neg c3, show (30001 : Int32) = nI 30001 from rfl, nI_eq (by decide) (by omega)] at h; omega
/-- a number, or none that can be -/
theorem tk_dig (c0 : stt f n j < n) (c2 : isDg (f (stt f n j)) = true) : tkJ f n j = if nmT f (stt f n j) (enn f n j) ≤ 9999 then nI (nmT f (stt f n j) (enn f n j)) else 30001 := by
  have c1 : ¬ isLt (f (stt f n j)) = true := by rw [isLt_i]; rw [isDg_i] at c2; omega
  unfold tkJ tkv
  rw [if_pos c0, if_neg c1, if_pos c2]
/-- no number: no small token -/
theorem tk_nd (h : ¬ (stt f n j < n ∧ isDg (f (stt f n j)) = true)) : ¬ tkJ f n j ≤ 9999 := by
  have big : ∀ k : Nat, 10000 ≤ k → k < 2 ^ 31 → ¬ nI k ≤ 9999 := by
    intro k h1 h2
    rw [show (9999 : Int32) = nI 9999 from rfl, nI_leI h2 (by decide)]
    omega
  unfold tkJ
  by_cases c0 : stt f n j < n
  rotate_left
  · rw [if_neg c0]; decide
  rw [if_pos c0]
  have c2 : ¬ isDg (f (stt f n j)) = true := fun w => h ⟨c0, w⟩
  unfold tkv
  by_cases c1 : isLt (f (stt f n j)) = true
  · rw [if_pos c1]
    rcases wdL_r (f := f) (s := stt f n j) (e := enn f n j) 18 0 rfl with w | ⟨v, a, w⟩
    · rw [w]; decide
    · rw [w]; exact big _ (by omega) (by omega)
  rw [if_neg c1, if_neg c2]
  by_cases c3 : isSg (f (stt f n j)) = true
  · rw [if_pos c3]
    unfold isSg at c3
    simp at c3
    exact big _ (by omega) (by omega)
  · rw [if_neg c3]; decide
end TJ
