/-! the class's looking methods are the abstract machine's -/
theorem hcl {M : cs_Mem} {j : Nat} (hj : j = 52 ∨ j = 56) : cs_ln M (j + 1) = 43 := by rcases hj with rfl | rfl <;> rfl
theorem hcl2 {M : cs_Mem} {j : Nat} (hj : j = 52 ∨ j = 56) : cs_ln M (j + 2) = 49 := by rcases hj with rfl | rfl <;> rfl
theorem top_lt {Q : cs_Mem} {S : Ms} {t : Nat} (hI : InvS Q S) (ht : t < 3) : mTop S t < 11 := by
  unfold mTop
  cases h : mSk S t with
  | nil => show 8 + t < 11; omega
  | cons c l =>
    have := (hI.2.1 t ht).2 c (by rw [h]; simp)
    show c < 11
    omega
theorem sln {M : cs_Mem} {f : Nat} (hf : f < 11) : cs_ln M (8 + 4 * f + 1) = (if f < 8 then 8 else 3) ∧ cs_ln M (8 + 4 * f + 2) = (if f < 8 then 8 else 3) ∧ cs_ln M (8 + 4 * f + 3) = (if f < 8 then 8 else 3) := by
  rcases (show f = 0 ∨ f = 1 ∨ f = 2 ∨ f = 3 ∨ f = 4 ∨ f = 5 ∨ f = 6 ∨ f = 7 ∨ f = 8 ∨ f = 9 ∨ f = 10 by omega) with rfl | rfl | rfl | rfl | rfl | rfl | rfl | rfl | rfl | rfl | rfl <;> exact ⟨rfl, rfl, rfl⟩
theorem wpL {M : cs_Mem} {f : Nat} (hW : WP M) (hf : f < 11) : M (8 + 4 * f) 5 = nI (pgL M f) ∧ pgL M f ≤ (if f < 8 then 8 else 3) ∧ pgL M f ≤ 8 := by
  obtain ⟨⟨L, U, h1, h2, h3, h4, h5, h6⟩, -⟩ := hW.2.2.2 f hf
  have h8 : L ≤ 8 := by
    split at h6 <;> omega
  have e : pgL M f = L := by
    unfold pgL
    rw [h1]
    exact nI_clamp (by omega)
  rw [e]
  exact ⟨h1, h6, h8⟩
theorem pr_le {M : cs_Mem} {S : Ms} {f : Nat} (hW : WP M) (hI : InvS M S) (hf : f < 11) : mPr S f ≤ 8 := Nat.le_trans (hI.2.2.2.1 f hf) (wpL hW hf).2.2
theorem c_top {M : cs_Mem} {S : Ms} {j k t : Nat} (hE : EncC S k (M (j + 1))) (ht : t < 3) : f_Ma_topFrame M j (nI t) = nI (mTop S t) := by
  unfold f_Ma_topFrame
  rw [ix35 (by omega)]
  exact hE.2.2.2.1 t ht
theorem p_top {M : cs_Mem} {j t : Nat} (hj : j = 52 ∨ j = 56) (ht : t < 3) : pre_Ma_topFrame M j (nI t) := ⟨by rw [hcl hj]; exact inK 35 t 43 (by omega) (by omega), trivial⟩
theorem nlt {a b : Nat} (ha : a < 1000000) (hb : b < 1000000) : (nI a < nI b) ↔ a < b := nI_ltI (by omega) (by omega)
theorem nle {a b : Nat} (ha : a < 1000000) (hb : b < 1000000) : (nI a ≤ nI b) ↔ a ≤ b := nI_leI (by omega) (by omega)
theorem neq {a b : Nat} (ha : a < 1000000) (hb : b < 1000000) : (nI a = nI b) ↔ a = b := nI_eq (by omega) (by omega)
theorem c_isIn {M : cs_Mem} {S : Ms} {j k t : Nat} (hI : InvS M S) (hE : EncC S k (M (j + 1))) (ht : t < 3) : f_Ma_isInClass M j (nI t) = if mSk S t = [] then 0 else 1 := by
  unfold f_Ma_isInClass
  rw [ix35 (by omega), hE.2.2.2.1 t ht]
  have e8 : ((8 : Int32) ≤ nI (mTop S t)) ↔ 8 ≤ mTop S t := nle (a := 8) (by decide) (by have := top_lt hI ht; omega)
  cases h : mSk S t with
  | nil =>
    have : mTop S t = 8 + t := by unfold mTop; rw [h]; rfl
    rw [if_pos (e8.mpr (by omega))]
    rfl
  | cons c l =>
    have h2 : mTop S t = c := by unfold mTop; rw [h]; rfl
    have h3 := (hI.2.1 t ht).2 c (by rw [h]; simp)
    rw [if_neg (fun q => absurd (e8.mp q) (by omega))]
    rfl
theorem c_beh {M : cs_Mem} {S : Ms} {j k f : Nat} (hW : WP M) (hI : InvS M S) (hE : EncC S k (M (j + 1))) (hf : f < 11) : f_Ma_isBehindLast M j (nI f) = if pgL M f ≤ mPr S f then 1 else 0 := by
  unfold f_Ma_isBehindLast f_Pr_script f_Sc_length
  simp only [cs_bd_eq]
  rw [nI_clamp (by omega), ix24 (by omega), hE.2.2.1 f hf, (wpL hW hf).1]
  have h1 := pr_le hW hI hf
  have h2 := (wpL hW hf).2.2
  by_cases h : pgL M f ≤ mPr S f
  · rw [if_pos h, if_neg (fun q => absurd ((nlt (by omega) (by omega)).mp q) (by omega))]
  · rw [if_neg h, if_pos ((nlt (by omega) (by omega)).mpr (by omega))]
theorem p_beh {M : cs_Mem} {j f : Nat} (hj : j = 52 ∨ j = 56) (hf : f < 11) : pre_Ma_isBehindLast M j (nI f) := ⟨by rw [hcl hj]; exact inK 24 f 43 (by omega) (by omega), ⟨vp_in_nI hf (by omega), trivial⟩, trivial⟩
theorem c_act {M : cs_Mem} {f p : Nat} (hW : WP M) (hf : f < 11) (hp : p < 1000) : f_Sc_actionAt M (8 + 4 * f) (nI p) = if pgL M f ≤ p then -1 else pgA M f p := by
  unfold f_Sc_actionAt
  rw [(wpL hW hf).1]
  have h2 := (wpL hW hf).2.2
  by_cases h : pgL M f ≤ p
  · rw [if_pos h, if_pos ((nle (by omega) (by omega)).mpr h)]
  · rw [if_neg h, if_neg (fun q => h ((nle (by omega) (by omega)).mp q)), nI_clamp (by omega)]
    rfl
theorem p_act {M : cs_Mem} {f p : Nat} (hW : WP M) (hf : f < 11) (hp : p < 1000) : pre_Sc_actionAt M (8 + 4 * f) (nI p) := by
  unfold pre_Sc_actionAt
  rw [(wpL hW hf).1, (sln hf).1]
  have h2 := (wpL hW hf).2.1
  refine ⟨fun _ => trivial, fun h => ⟨vp_in_nI ?_ ?_, trivial⟩⟩
  · have : ¬ pgL M f ≤ p := fun q => h ((nle (by have := (wpL hW hf).2.2; omega) (by omega)).mpr q)
    omega
  · split <;> omega
theorem wpA {M : cs_Mem} {f p : Nat} (hW : WP M) (hf : f < 11) (hp : p < pgL M f) : ∃ a, pgA M f p = nI a ∧ a ≤ 6 ∧ (a = 0 → ∃ x, x < 8 ∧ pgX M f p = nI x) ∧ (a = 2 → (pgX M f p = 0 ∨ pgX M f p = 1) ∧ ∃ y, y < 8 ∧ pgY M f p = nI y) ∧ (a = 3 ∨ a = 4 → ∃ x, x < 10 ∧ pgX M f p = nI x) ∧ (p < pgU M f → a = 0) ∧ (8 ≤ f → a = 0 ∨ a = 5 ∨ a = 6) := (hW.2.2.2 f hf).2.2 p hp
theorem us_lt {M : cs_Mem} {f p x : Nat} (hW : WP M) (hf : f < 11) (h : us M f p = some x) : x < 8 := by
  unfold us at h
  split at h
  · next hp =>
    obtain ⟨a, e, h6, h0, h2, -⟩ := wpA hW hf hp
    rw [e] at h
    split at h
    · next q =>
      obtain ⟨y, hy, ey⟩ := h0 ((neq (by omega) (by decide)).mp q)
      rw [ey, nI_clamp (by omega)] at h
      cases h
      exact hy
    · split at h
      · next q =>
        obtain ⟨-, y, hy, ey⟩ := h2 ((neq (by omega) (by decide)).mp q)
        split at h
        · cases h
        · rw [ey, nI_clamp (by omega)] at h
          cases h
          exact hy
      · cases h
  · cases h
theorem nI_m1 {a : Nat} (h : a < 1000000) : ¬ nI a = (-1 : Int32) := by
  intro q
  have := congrArg Int32.toInt q
  rw [nI_toInt (by omega)] at this
  have e : (-1 : Int32).toInt = -1 := by decide
  rw [e] at this
  omega
theorem c_used {M : cs_Mem} {f p : Nat} (hW : WP M) (hf : f < 11) (hp : p < 1000) : f_Pr_usedBy M 1 (nI f) (nI p) = uI (us M f p) := by
  unfold f_Pr_usedBy
  simp only [cs_bd_eq]
  rw [nI_clamp (by omega), c_act hW hf hp]
  unfold us
  by_cases h : pgL M f ≤ p
  · rw [if_pos h, if_neg (show ¬ p < pgL M f by omega)]
    rfl
  · rw [if_neg h, if_pos (show p < pgL M f by omega)]
    have hl : p < pgL M f := by omega
    obtain ⟨a, e, h6, h0, h2, -⟩ := wpA hW hf hl
    unfold f_Sc_firstOperandAt f_Sc_secondOperandAt
    rw [nI_clamp (by omega)]
    show (if pgA M f p = 0 then pgX M f p else if pgA M f p = 2 then (if pgX M f p = 1 then (if M 3 (pgY M f p).toNatClampNeg = 0 then pgY M f p else -1) else pgY M f p) else -1) = _
    rw [e]
    by_cases q0 : nI a = 0
    · rw [if_pos q0, if_pos q0]
      obtain ⟨y, hy, ey⟩ := h0 ((neq (by omega) (by decide)).mp q0)
      rw [ey]
      show nI y = nI (nI y).toNatClampNeg
      rw [nI_clamp (by omega)]
    · rw [if_neg q0, if_neg q0]
      by_cases q2 : nI a = 2
      · rw [if_pos q2, if_pos q2]
        obtain ⟨-, y, hy, ey⟩ := h2 ((neq (by omega) (by decide)).mp q2)
        rw [ey, nI_clamp (by omega)]
        by_cases q3 : pgX M f p = 1
        · rw [if_pos q3]
          by_cases q4 : M 3 y = 0
          · rw [if_pos q4, if_neg (fun q => q.2 q4)]
            rfl
          · rw [if_neg q4, if_pos ⟨q3, q4⟩]
            rfl
        · rw [if_neg q3, if_neg (fun q => q3 q.1)]
          rfl
      · rw [if_neg q2, if_neg q2]
        rfl
