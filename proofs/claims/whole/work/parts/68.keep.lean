/-! ===== fittings from a state behind others ===== -/
/-- all scratch that a call may use -/
def gSc : Nat → Nat → Prop := fun o j => o = 68 ∨ (104 ≤ o ∧ o < 164 ∧ 9 ≤ j) ∨ (o = 164 ∧ (j = 20 ∨ j = 21 ∨ j = 22)) ∨ o = 72 ∨ o = 73 ∨ o = 74 ∨ o = 91 ∨ o = 243 ∨ o = 260 ∨ o = 261 ∨ (o = 64 ∧ j = 18) ∨ o = 84 ∨ o = 90 ∨ o = 75 ∧ ¬ j = 1 ∨ o = 77 ∨ o = 78
def okS (S : Nat → Nat → Prop) : Prop := (∀ o j, fS o j → S o j) ∧ (∀ o j, S o j → gSc o j)
theorem okS_f : okS fS := ⟨fun _ _ h => h, fun o j h => by unfold fS at h; unfold gSc; omega⟩
theorem eqM_g {s s' : zS} {S : Nat → Nat → Prop} (hS : ∀ o j, S o j → gSc o j) (h : zE S s s') : eqM s.1 s'.1 := by
  intro p j hp
  refine h.2 p j (fun w => ?_)
  have w2 := hS _ _ w
  unfold mS at hp
  unfold gSc at w2
  omega
theorem nK_g {s s' : zS} {S : Nat → Nat → Prop} (hS : ∀ o j, S o j → gSc o j) (h : zE S s s') : nK s'.1 = nK s.1 ∧ s'.1 164 24 = s.1 164 24 := by
  have := eqM_g hS h 164 24 (by simp [mS])
  exact ⟨by unfold nK; rw [this], this⟩
theorem nT_g {s s' : zS} {S : Nat → Nat → Prop} (hS : ∀ o j, S o j → gSc o j) (h : zE S s s') : nT s'.1 = nT s.1 ∧ s'.1 164 19 = s.1 164 19 := by
  have := eqM_g hS h 164 19 (by simp [mS])
  exact ⟨by unfold nT; rw [this], this⟩
theorem Core_c7 {s : zS} (hC : Core s) : s.1 64 7 = nI (nK s.1) ∧ s.1 164 24 = nI (nK s.1) ∧ nK s.1 ≤ 60 := by
  have hL := hC.2.2.2.2.2.1
  exact ⟨by rw [hL.2.1]; exact RN_n hL.1, RN_n hL.1, RN_l hL.1⟩
theorem Core_c5 {s : zS} (hC : Core s) : s.1 64 5 = nI (nT s.1) ∧ s.1 164 19 = nI (nT s.1) ∧ nT s.1 ≤ 12 := by
  have hT := hC.2.2.2.1
  exact ⟨by rw [hT.2.1]; exact RN_n hT.1, RN_n hT.1, RN_l hT.1⟩
section CG
variable {l : Launch} {g : zG} {d : Nat} {s s0 : zS} {k : Nat} {p : Int32} {K : Int32 → zS → Prop} {S : Nat → Nat → Prop}
theorem c_fitG (hO : okS S) (hE : zE S s0 s) (hC : Core s) (hk : k < nK s0.1) (h : ∀ s', zE fS s s' → zE S s0 s' → Core s' → K (fitF s0.1 k) s') : zc l g (d + 6) M_X7_fittingOf [.ref 64, .ref (104 + k)] s (zKi K) := by
  have n := nK_g hO.2 hE
  have n60 : nK s.1 ≤ 60 := (Core_c7 hC).2.2
  refine c_fit hC (by omega) (fun s' h1 h2 => ?_)
  rw [fitF_c (eqM_g hO.2 hE) (by omega)]
  exact h s' h1 (zE_t hE (zE_m h1 hO.1)) h2
theorem m_fitG (hO : okS S) (hE : zE S s0 s) (hC : Core s) (hv : vp_in p 60) (hp : p.toNatClampNeg = k) (hk : k < nK s0.1) (h : ∀ s', zE fS s s' → zE S s0 s' → Core s' → K (fitF s0.1 k) s') : zc l g (d + 7) M_X8_fitting [.ref 164, .int p] s (zKi K) := by
  subst hp
  have n := nK_g hO.2 hE
  have n60 : nK s.1 ≤ 60 := (Core_c7 hC).2.2
  refine m_fit hC hv (by omega) (fun s' h1 h2 => ?_)
  rw [fitF_c (eqM_g hO.2 hE) (by omega)]
  exact h s' h1 (zE_t hE (zE_m h1 hO.1)) h2
end CG
theorem and1 (v : Int32) : v &&& 1 = 0 ∨ v &&& 1 = 1 := by
  have h : (v &&& 1).toBitVec.toNat = v.toBitVec.toNat % 2 := by
    rw [Int32.toBitVec_and, BitVec.toNat_and]
    exact Nat.and_one_is_mod _
  rcases Nat.mod_two_eq_zero_or_one v.toBitVec.toNat with q | q
  · left
    apply Int32.toBitVec_inj.mp
    apply BitVec.eq_of_toNat_eq
    rw [h, q]; rfl
  · right
    apply Int32.toBitVec_inj.mp
    apply BitVec.eq_of_toNat_eq
    rw [h, q]; rfl
theorem and1_n {v : Int32} (h : ¬ v &&& 1 = 1) : v &&& 1 = 0 := (and1 v).resolve_right h
theorem and1_p {v : Int32} (h : v &&& 1 = 1) : ¬ v &&& 1 = 0 := by rw [h]; decide
