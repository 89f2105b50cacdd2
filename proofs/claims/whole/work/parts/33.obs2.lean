theorem p_used {M : cs_Mem} {f p : Nat} (hW : WP M) (hf : f < 11) (hp : p < 1000) : pre_Pr_usedBy M 1 (nI f) (nI p) := by
  unfold pre_Pr_usedBy
  rw [nI_clamp (by omega)]
  refine ⟨vp_in_nI hf (by omega), p_act hW hf hp, ?_⟩
  simp only [cs_bd_prop]
  rw [c_act hW hf hp]
  have h2 := (wpL hW hf).2.1
  have key : ∀ a : Int32, (if pgL M f ≤ p then (-1 : Int32) else pgA M f p) = a → ¬ a = -1 → p < pgL M f := by
    intro a h ha
    rcases Nat.lt_or_ge p (pgL M f) with q | q
    · exact q
    · rw [if_pos q] at h
      exact absurd h.symm ha
  refine ⟨fun h => ⟨⟨?_, trivial⟩, trivial⟩, fun _ => ⟨fun h => ?_, fun _ => trivial⟩⟩
  · have := key 0 h (by decide)
    rw [(sln hf).2.1]
    exact vp_in_nI (by omega) (by split <;> omega)
  · have hl := key 2 h (by decide)
    obtain ⟨a, e, h6, h0, ha2, -⟩ := wpA hW hf hl
    rw [if_neg (by omega), e] at h
    obtain ⟨-, y, hy, ey⟩ := ha2 ((neq (by omega) (by decide)).mp h)
    refine ⟨⟨?_, trivial⟩, ⟨?_, trivial⟩, fun _ => ⟨?_, trivial⟩, fun _ => trivial⟩
    · rw [(sln hf).2.2]
      exact vp_in_nI (by omega) (by split <;> omega)
    · rw [(sln hf).2.1]
      exact vp_in_nI (by omega) (by split <;> omega)
    · unfold f_Sc_secondOperandAt
      rw [nI_clamp (by omega)]
      show vp_in (pgY M f p) 8
      rw [ey]
      exact vp_in_nI hy (by omega)
theorem c_stateOf {M : cs_Mem} {S : Ms} {j k c : Nat} (hE : EncC S k (M (j + 1))) (hc : c < 8) : f_Ma_stateOf M j (nI c) = nI (mSt S c) := by
  unfold f_Ma_stateOf
  rw [ix0 (by omega)]
  exact hE.1 c hc
theorem p_stateOf {M : cs_Mem} {j c : Nat} (hj : j = 52 ∨ j = 56) (hc : c < 8) : pre_Ma_stateOf M j (nI c) := ⟨by rw [hcl hj]; exact inK 0 c 43 (by omega) (by omega), trivial⟩
theorem fl_le {M : cs_Mem} {S : Ms} {t : Nat} (hI : InvS M S) (ht : t < 3) : mFl S t ≤ 40 := (hI.2.2.2.2.2.1 t ht).1
theorem st_le {M : cs_Mem} {S : Ms} {c : Nat} (hI : InvS M S) (hc : c < 8) : mSt S c ≤ 6 := by
  have := hI.1 c hc
  omega
theorem nI0 {a : Nat} (h : a < 1000000) : (nI a = 0) ↔ a = 0 := neq (b := 0) h (by decide)
theorem c_aw {M : cs_Mem} {S : Ms} {j k t : Nat} (hW : WP M) (hI : InvS M S) (hE : EncC S k (M (j + 1))) (ht : t < 3) : f_Ma_awaited M j (nI t) = uI (mWt M S t) := by
  have hT := top_lt hI ht
  have hP := pr_le hW hI hT
  unfold f_Ma_awaited mWt
  simp only [cs_bd_eq]
  rw [ix38 (by omega), hE.2.2.2.2.1 t ht, c_top hE ht, ix24 (by omega), hE.2.2.1 _ hT, c_used hW hT (by omega)]
  by_cases h : mFl S t = 0
  · rw [if_pos ((nI0 (by have := fl_le hI ht; omega)).mpr h), if_pos h]
    cases hu : us M (mTop S t) (mPr S (mTop S t)) with
    | none => rfl
    | some x =>
      have hx := us_lt hW hT hu
      show (if nI x = -1 then -1 else if f_Ma_stateOf M j (nI x) < 4 then -1 else if f_Ma_stateOf M j (nI x) = 4 + nI t then -1 else nI x) = uI (if 4 ≤ mSt S x ∧ ¬ mSt S x = 4 + t then some x else none)
      rw [if_neg (nI_m1 (by omega)), c_stateOf hE hx]
      have h6 := st_le hI hx
      have e4 : (nI (mSt S x) < 4) ↔ mSt S x < 4 := nlt (b := 4) (by omega) (by decide)
      have e5 : (nI (mSt S x) = 4 + nI t) ↔ mSt S x = 4 + t := by
        rw [show (4 : Int32) + nI t = nI (4 + t) from nI_add 4 t]
        exact neq (by omega) (by omega)
      by_cases q1 : mSt S x < 4
      · rw [if_pos (e4.mpr q1), if_neg (by omega)]
        rfl
      · rw [if_neg (fun q => q1 (e4.mp q))]
        by_cases q2 : mSt S x = 4 + t
        · rw [if_pos (e5.mpr q2), if_neg (fun q => q.2 q2)]
          rfl
        · rw [if_neg (fun q => q2 (e5.mp q)), if_pos ⟨by omega, q2⟩]
          rfl
  · rw [if_neg (fun q => h ((nI0 (by have := fl_le hI ht; omega)).mp q)), if_neg h]
    rfl
theorem p_aw {M : cs_Mem} {S : Ms} {j k t : Nat} (hj : j = 52 ∨ j = 56) (hW : WP M) (hI : InvS M S) (hE : EncC S k (M (j + 1))) (ht : t < 3) : pre_Ma_awaited M j (nI t) := by
  have hT := top_lt hI ht
  have hP := pr_le hW hI hT
  unfold pre_Ma_awaited
  refine ⟨by rw [hcl hj]; exact inK 38 t 43 (by omega) (by omega), fun _ => ⟨p_top hj ht, ?_⟩, fun _ => trivial⟩
  simp only [cs_bd_prop]
  rw [c_top hE ht]
  refine ⟨by rw [hcl hj]; exact inK 24 _ 43 (by omega) (by omega), ?_⟩
  rw [ix24 (by omega), hE.2.2.1 _ hT]
  refine ⟨p_used hW hT (by omega), ?_⟩
  rw [c_used hW hT (by omega)]
  cases hu : us M (mTop S t) (mPr S (mTop S t)) with
  | none => exact ⟨fun _ => trivial, fun h => absurd rfl h⟩
  | some x =>
    have hx := us_lt hW hT hu
    exact ⟨fun _ => trivial, fun _ => ⟨p_stateOf hj hx, fun _ => trivial, fun _ => ⟨p_stateOf hj hx, trivial⟩⟩⟩
def bI (b : Bool) : Int32 := if b = true then 1 else 0
theorem bI0 (b : Bool) : (bI b = 0) ↔ b = false := by cases b <;> decide
theorem c_end {M : cs_Mem} {S : Ms} {j k t : Nat} (hW : WP M) (hI : InvS M S) (hE : EncC S k (M (j + 1))) (ht : t < 3) : f_Ma_hasEnded M j (nI t) = bI (mEnd M S t) := by
  unfold f_Ma_hasEnded mEnd
  simp only [cs_bd_eq]
  rw [c_isIn hI hE ht, ix38 (by omega), hE.2.2.2.2.1 t ht, c_top hE ht]
  cases h : mSk S t with
  | nil =>
    have hT : mTop S t = 8 + t := by unfold mTop; rw [h]; rfl
    rw [if_pos rfl, if_pos rfl, hT, c_beh hW hI hE (by omega)]
    have e0 := nI0 (a := mFl S t) (by have := fl_le hI ht; omega)
    by_cases q : mFl S t = 0
    · rw [if_pos (e0.mpr q)]
      by_cases q2 : pgL M (8 + t) ≤ mPr S (8 + t)
      · rw [if_pos q2]
        simp [q, q2, bI]
      · rw [if_neg q2]
        simp [q, q2, bI]
    · rw [if_neg (fun z => q (e0.mp z))]
      simp [q, bI]
  | cons c l =>
    rw [if_neg (by simp)]
    rfl
theorem p_end {M : cs_Mem} {S : Ms} {j k t : Nat} (hj : j = 52 ∨ j = 56) (hI : InvS M S) (hE : EncC S k (M (j + 1))) (ht : t < 3) : pre_Ma_hasEnded M j (nI t) := by
  unfold pre_Ma_hasEnded
  refine ⟨⟨by rw [hcl hj]; exact inK 35 t 43 (by omega) (by omega), trivial⟩, ?_⟩
  simp only [cs_bd_prop]
  rw [c_top hE ht]
  exact ⟨fun _ => ⟨by rw [hcl hj]; exact inK 38 t 43 (by omega) (by omega), fun _ => ⟨p_top hj ht, p_beh hj (top_lt hI ht), trivial⟩, fun _ => trivial⟩, fun _ => trivial⟩
theorem uI_m1 {o : Option Nat} (h : ∀ x, o = some x → x < 1000000) : (uI o = -1) ↔ o = none := by
  cases o with
  | none => exact ⟨fun _ => rfl, fun _ => rfl⟩
  | some x => exact ⟨fun q => absurd q (nI_m1 (h x rfl)), fun q => by cases q⟩
theorem wt_lt {M : cs_Mem} {S : Ms} {t x : Nat} (hW : WP M) (hI : InvS M S) (ht : t < 3) (h : mWt M S t = some x) : x < 8 := by
  unfold mWt at h
  split at h
  · cases hu : us M (mTop S t) (mPr S (mTop S t)) with
    | none => rw [hu] at h; cases h
    | some y =>
      rw [hu] at h
      have h : (if 4 ≤ mSt S y ∧ ¬ mSt S y = 4 + t then some y else none) = some x := h
      split at h
      · cases h
        exact us_lt hW (top_lt hI ht) hu
      · cases h
  · cases h
theorem c_nxL {M : cs_Mem} {S : Ms} {j k : Nat} (hW : WP M) (hI : InvS M S) (hE : EncC S k (M (j + 1))) : ∀ (n t : Nat), 3 < n + t → t ≤ 3 → f_Ma_nextAble_L2 n M j (nI t) = nI (if t < 3 ∧ mAb M S t = true then t else mNx M S (t + 1)) ∧ ((j = 52 ∨ j = 56) → pre_Ma_nextAble_L2 n M j (nI t)) := by
  intro n
  induction n with
  | zero => intro t h1 h2; omega
  | succ n ih =>
    intro t h1 h2
    rw [f_Ma_nextAble_L2, pre_Ma_nextAble_L2]
    have e3 : ((3 : Int32) ≤ nI t) ↔ 3 ≤ t := nle (a := 3) (by decide) (by omega)
    by_cases h3 : 3 ≤ t
    · have ht : t = 3 := by omega
      subst ht
      rw [if_pos (e3.mpr (by omega))]
      exact ⟨rfl, fun _ => ⟨fun _ => trivial, fun q => absurd (e3.mpr (by omega)) q⟩⟩
    · have ht : t < 3 := by omega
      have ih1 := ih (t + 1) (by omega) (by omega)
      have step : mNx M S (t + 1) = (if t + 1 < 3 ∧ mAb M S (t + 1) = true then t + 1 else mNx M S (t + 1 + 1)) := by
        unfold mNx
        rcases (show t = 0 ∨ t = 1 ∨ t = 2 by omega) with rfl | rfl | rfl <;> simp
      rw [if_neg (fun q => h3 (e3.mp q))]
      simp only [cs_bd_eq, cs_bd_prop]
      rw [c_end hW hI hE ht, c_aw hW hI hE ht, nI_1, ih1.1, ← step]
      have u1 := uI_m1 (o := mWt M S t) (fun x hx => by have := wt_lt hW hI ht hx; omega)
      refine ⟨?_, fun hj => ⟨fun q => absurd (e3.mp q) h3, fun _ => ⟨p_end hj hI hE ht, fun _ => ⟨p_aw hj hW hI hE ht, fun _ => trivial, fun _ => ih1.2 hj⟩, fun _ => ih1.2 hj⟩⟩⟩
      unfold mAb
      cases he : mEnd M S t with
      | true =>
        rw [if_neg (by decide)]
        simp
      | false =>
        rw [if_pos (by decide)]
        cases hw : mWt M S t with
        | none =>
          rw [if_pos (show uI none = -1 from rfl)]
          simp [ht]
        | some x =>
          rw [if_neg (fun q => by have := u1.mp (by rw [hw]; exact q); rw [hw] at this; cases this)]
          simp
theorem c_nx {M : cs_Mem} {S : Ms} {j k t : Nat} (hW : WP M) (hI : InvS M S) (hE : EncC S k (M (j + 1))) (ht : t ≤ 3) : f_Ma_nextAble M j (nI t) = nI (mNx M S t) := by
  unfold f_Ma_nextAble
  rw [(c_nxL hW hI hE 5 t (by omega) ht).1]
  unfold mNx
  rcases (show t = 0 ∨ t = 1 ∨ t = 2 ∨ t = 3 by omega) with rfl | rfl | rfl | rfl <;> simp
theorem p_nx {M : cs_Mem} {S : Ms} {j k t : Nat} (hj : j = 52 ∨ j = 56) (hW : WP M) (hI : InvS M S) (hE : EncC S k (M (j + 1))) (ht : t ≤ 3) : pre_Ma_nextAble M j (nI t) := (c_nxL hW hI hE 5 t (by omega) ht).2 hj
theorem c_last {M : cs_Mem} {S : Ms} {j k t : Nat} (hW : WP M) (hI : InvS M S) (hE : EncC S k (M (j + 1))) (ht : t < 3) : f_Ma_lastResultOf M j (nI t) = if mEnd M S t = true then nI (mFl S t) else 50 := by
  unfold f_Ma_lastResultOf
  simp only [cs_bd_eq]
  rw [c_end hW hI hE ht, ix38 (by omega), hE.2.2.2.2.1 t ht]
  cases mEnd M S t <;> rfl
theorem p_last {M : cs_Mem} {S : Ms} {j k t : Nat} (hj : j = 52 ∨ j = 56) (hI : InvS M S) (hE : EncC S k (M (j + 1))) (ht : t < 3) : pre_Ma_lastResultOf M j (nI t) := by
  unfold pre_Ma_lastResultOf
  refine ⟨p_end hj hI hE ht, ?_⟩
  simp only [cs_bd_prop]
  exact ⟨fun _ => trivial, fun _ => ⟨by rw [hcl hj]; exact inK 38 t 43 (by omega) (by omega), trivial⟩⟩
