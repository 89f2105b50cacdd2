theorem st_n {M : cs_Mem} {S : Ms} {x : Nat} (hI : InvS M S) (hx : x < 8) (h : 4 ≤ mSt S x) : x < pgN M := by
  have h1 := hI.1 x hx
  have : ∃ t, t < 3 ∧ mSt S x = 4 + t := ⟨mSt S x - 4, by omega, by omega⟩
  obtain ⟨t, ht, e⟩ := this
  exact ((hI.2.1 t ht).2 x ((hI.2.2.1 t x ht hx).mp e)).2
theorem end_fl {M : cs_Mem} {S : Ms} {t : Nat} (h : mEnd M S t = false) (hs : mSk S t = []) : mFl S t = 0 ∧ mPr S (8 + t) < pgL M (8 + t) := by
  unfold mEnd at h
  rw [hs] at h
  simp at h
  exact ⟨h.1, h.2⟩
theorem end_sk {M : cs_Mem} {S : Ms} {t : Nat} (h : mEnd M S t = true) : mSk S t = [] ∧ (¬ mFl S t = 0 ∨ pgL M (8 + t) ≤ mPr S (8 + t)) := by
  unfold mEnd at h
  cases hs : mSk S t with
  | nil =>
    rw [hs] at h
    simp at h
    exact ⟨rfl, h⟩
  | cons c l =>
    rw [hs] at h
    cases h
theorem end_wt {M : cs_Mem} {S : Ms} {t : Nat} (h : mEnd M S t = true) : mWt M S t = none := by
  have ⟨hs, h2⟩ := end_sk h
  unfold mWt
  by_cases hf : mFl S t = 0
  · rw [if_pos hf]
    have hp : pgL M (8 + t) ≤ mPr S (8 + t) := by
      rcases h2 with q | q
      · exact absurd hf q
      · exact q
    have hT : mTop S t = 8 + t := by unfold mTop; rw [hs]; rfl
    have : us M (mTop S t) (mPr S (mTop S t)) = none := by
      unfold us
      rw [hT, if_neg (by omega)]
    rw [this]
  · rw [if_neg hf]
theorem e83 {M : cs_Mem} {S : Ms} {t : Nat} (hE : EncB S M) (ht : t < 3) (h : mEnd M S t = false) : M 83 t = if mFl S t = 0 then -1 else nI (mFl S t - 1) := by
  rw [hE.2.2.2.2.2.1 t ht]
  by_cases hf : mFl S t = 0
  · rw [if_pos hf, if_pos (Or.inr hf)]
  · rw [if_neg hf, if_neg ?_]
    rintro (q | q)
    · exact hf (end_fl h q).1
    · exact hf q
theorem m_waits {M : cs_Mem} {S : Ms} {t : Nat} (hW : WP M) (hP : PRel M) (hI : InvS M S) (hE : EncM S M) (ht : t < 3) : f_Mo_waits M 62 (nI t) = bI (mWt M S t).isSome ∧ pre_Mo_waits M 62 (nI t) := by
  have hu := m_used hW hP hI hE.1 ht
  have hT := top_lt hI ht
  unfold f_Mo_waits pre_Mo_waits f_Mo_waits_J18
  simp only [cs_bd_eq]
  rw [nI_clamp (by omega), hE.2 t ht, hu.1]
  have i84 : vp_in (nI t) (cs_ln M 84) := vp_in_nI (N := 3) ht (by omega)
  have i83 : vp_in (nI t) (cs_ln M 83) := vp_in_nI (N := 3) ht (by omega)
  cases he : mEnd M S t with
  | true =>
    have hp : (0 : Int32) ≤ nI (mFl S t) := npos' (by have := fl_le hI ht; omega)
    rw [if_pos rfl, if_pos hp, end_wt he]
    exact ⟨rfl, i84, fun _ => trivial, fun q => absurd hp q⟩
  | false =>
    have hm : ¬ (0 : Int32) ≤ -1 := by decide
    rw [if_neg (show ¬ false = true from by decide), if_neg hm, e83 hE.1 ht he]
    unfold mWt
    by_cases hf : mFl S t = 0
    · rw [if_pos hf, if_pos hf, if_pos m1lt0]
      cases hus : us M (mTop S t) (mPr S (mTop S t)) with
      | none =>
        have e1 : vI M none < 0 := m1lt0
        rw [if_pos e1]
        exact ⟨rfl, i84, fun q => absurd q hm, fun _ => ⟨i83, fun _ => ⟨hu.2, fun _ => trivial, fun q => absurd e1 q⟩, fun q => absurd m1lt0 q⟩⟩
      | some x =>
        have hx := us_lt hW hT hus
        have hs := st_le hI hx
        show _ = bI (if 4 ≤ mSt S x ∧ ¬ mSt S x = 4 + t then some x else none).isSome ∧ _
        by_cases hn : x < pgN M
        · have e : vI M (some x) = nI x := by show (if x < pgN M then nI x else nI (100 + x)) = _; rw [if_pos hn]
          have c1 : ¬ nI x < 0 := npos (by omega)
          have c2 : ¬ (100 : Int32) ≤ nI x := fun q => absurd ((nle (a := 100) (by omega) (by omega)).mp q) (by omega)
          rw [e, if_neg c1, if_neg c2, nI_clamp (by omega), hE.1.1 x hx, show (4 : Int32) = nI 4 from rfl, nI_add]
          have i78 : vp_in (nI x) (cs_ln M 78) := vp_in_nI (N := 8) hx (by omega)
          refine ⟨?_, i84, fun q => absurd q hm, fun _ => ⟨i83, fun _ => ⟨hu.2, fun _ => trivial, fun _ => ⟨fun _ => trivial, fun _ => ⟨i78, fun _ => trivial, fun _ => ⟨i78, trivial⟩⟩⟩⟩, fun _ => trivial⟩⟩
          by_cases h4 : mSt S x < 4
          · rw [if_pos ((nlt (by omega) (by omega)).mpr h4), if_neg (by omega)]
            rfl
          · rw [if_neg (fun q => h4 ((nlt (by omega) (by omega)).mp q))]
            by_cases h5 : mSt S x = 4 + t
            · rw [if_pos ((neq (by omega) (by omega)).mpr h5), if_neg (by omega)]
              rfl
            · rw [if_neg (fun q => h5 ((neq (by omega) (by omega)).mp q)), if_pos (by omega)]
              rfl
        · have e : vI M (some x) = nI (100 + x) := by show (if x < pgN M then nI x else nI (100 + x)) = _; rw [if_neg hn]
          have c1 : ¬ nI (100 + x) < 0 := npos (by omega)
          have c2 : (100 : Int32) ≤ nI (100 + x) := (nle (a := 100) (by omega) (by omega)).mpr (by omega)
          have h4 : ¬ 4 ≤ mSt S x := fun q => hn (st_n hI hx q)
          rw [e, if_neg c1, if_pos c2, if_neg (fun q => h4 q.1)]
          exact ⟨rfl, i84, fun q => absurd q hm, fun _ => ⟨i83, fun _ => ⟨hu.2, fun _ => trivial, fun _ => ⟨fun _ => trivial, fun q => absurd c2 q⟩⟩, fun _ => trivial⟩⟩
    · have c1 : ¬ nI (mFl S t - 1) < 0 := npos (by have := fl_le hI ht; omega)
      rw [if_neg hf, if_neg hf, if_neg c1]
      exact ⟨rfl, i84, fun q => absurd q hm, fun _ => ⟨i83, fun q => absurd q c1, fun _ => trivial⟩⟩
theorem m_can {M : cs_Mem} {S : Ms} {t : Nat} (hW : WP M) (hP : PRel M) (hI : InvS M S) (hE : EncM S M) (ht : t < 3) : f_Mo_canStep M 62 (nI t) = bI (mAb M S t) ∧ pre_Mo_canStep M 62 (nI t) := by
  have hw := m_waits hW hP hI hE ht
  unfold f_Mo_canStep pre_Mo_canStep mAb
  simp only [cs_bd_eq]
  rw [nI_clamp (by omega), hE.2 t ht, hw.1]
  have i84 : vp_in (nI t) (cs_ln M 84) := vp_in_nI (N := 3) ht (by omega)
  cases he : mEnd M S t with
  | true =>
    have hp : (0 : Int32) ≤ nI (mFl S t) := npos' (by have := fl_le hI ht; omega)
    rw [if_pos rfl, if_pos hp]
    exact ⟨rfl, i84, fun _ => trivial, fun q => absurd hp q⟩
  | false =>
    have hm : ¬ (0 : Int32) ≤ -1 := by decide
    rw [if_neg (show ¬ false = true from by decide), if_neg hm]
    refine ⟨?_, i84, fun q => absurd q hm, fun _ => ⟨hw.2, trivial⟩⟩
    cases mWt M S t <;> rfl
theorem nxt_S (n : Nat) (M : cs_Mem) (j : Nat) (y2 : Int32) : f_Mo_nextThread_L2 (n + 1) M j y2 = if 3 ≤ y2 then y2 else if f_Mo_canStep M j y2 = 0 then f_Mo_nextThread_L2 n M j (y2 + 1) else y2 := by
  show (if _ then _ else cs_bd _ fun r3 => if _ then cs_bd _ _ else _) = _
  simp only [cs_bd_eq]
theorem pnxt_S (n : Nat) (M : cs_Mem) (j : Nat) (y2 : Int32) : pre_Mo_nextThread_L2 (n + 1) M j y2 ↔ (3 ≤ y2 → True) ∧ (¬ 3 ≤ y2 → pre_Mo_canStep M j y2 ∧ (f_Mo_canStep M j y2 = 0 → pre_Mo_nextThread_L2 n M j (y2 + 1)) ∧ (¬ f_Mo_canStep M j y2 = 0 → True)) := by
  show ((_ → True) ∧ (_ → _ ∧ cs_bd _ fun r3 => (_ → cs_bd _ _) ∧ (_ → True))) ↔ _
  simp only [cs_bd_eq]
theorem m_nxL {M : cs_Mem} {S : Ms} (hW : WP M) (hP : PRel M) (hI : InvS M S) (hE : EncM S M) : ∀ (n t : Nat), 3 ≤ n + t → t ≤ 3 → f_Mo_nextThread_L2 (n + 1) M 62 (nI t) = nI (mNx M S t) ∧ pre_Mo_nextThread_L2 (n + 1) M 62 (nI t) := by
  intro n
  induction n with
  | zero =>
    intro t h1 h2
    have : t = 3 := by omega
    subst this
    rw [nxt_S, pnxt_S, if_pos (show (3 : Int32) ≤ nI 3 from by decide)]
    refine ⟨?_, fun _ => trivial, fun q => absurd (show (3 : Int32) ≤ nI 3 from by decide) q⟩
    unfold mNx
    rw [if_neg (by omega), if_neg (by omega), if_neg (by omega)]
  | succ n ih =>
    intro t h1 h2
    rw [nxt_S, pnxt_S]
    by_cases h3 : t = 3
    · subst h3
      rw [if_pos (show (3 : Int32) ≤ nI 3 from by decide)]
      refine ⟨?_, fun _ => trivial, fun q => absurd (show (3 : Int32) ≤ nI 3 from by decide) q⟩
      unfold mNx
      rw [if_neg (by omega), if_neg (by omega), if_neg (by omega)]
    · have ht : t < 3 := by omega
      have hc := m_can hW hP hI hE ht
      have c3 : ¬ (3 : Int32) ≤ nI t := fun q => absurd ((nle (a := 3) (by omega) (by omega)).mp q) (by omega)
      rw [if_neg c3, hc.1]
      have r := ih (t + 1) (by omega) (by omega)
      rw [nI_1]
      cases hb : mAb M S t with
      | true =>
        rw [if_neg (show ¬ bI true = 0 from by decide)]
        refine ⟨?_, fun _ => trivial, fun _ => ⟨hc.2, fun q => absurd q (by decide), fun _ => trivial⟩⟩
        unfold mNx
        rcases (show t = 0 ∨ t = 1 ∨ t = 2 by omega) with rfl | rfl | rfl
        · rw [if_pos ⟨by omega, hb⟩]
        · rw [if_neg (by omega), if_pos ⟨by omega, hb⟩]
        · rw [if_neg (by omega), if_neg (by omega), if_pos ⟨by omega, hb⟩]
      | false =>
        rw [if_pos (show bI false = 0 from rfl)]
        refine ⟨?_, fun _ => trivial, fun _ => ⟨hc.2, fun _ => r.2, fun _ => trivial⟩⟩
        rw [r.1]
        unfold mNx
        rcases (show t = 0 ∨ t = 1 ∨ t = 2 by omega) with rfl | rfl | rfl
        · rw [if_neg (by omega), if_neg (c := 0 ≤ 0 ∧ _) (by rw [hb]; simp)]
          simp
        · rw [if_neg (by omega), if_neg (by omega), if_neg (c := 1 ≤ 0 ∧ _) (by omega), if_neg (c := 1 ≤ 1 ∧ _) (by rw [hb]; simp)]
          simp
        · rw [if_neg (by omega), if_neg (by omega), if_neg (by omega), if_neg (c := 2 ≤ 0 ∧ _) (by omega), if_neg (c := 2 ≤ 1 ∧ _) (by omega), if_neg (by rw [hb]; simp)]
theorem m_nx {M : cs_Mem} {S : Ms} {g : Nat} (hW : WP M) (hP : PRel M) (hI : InvS M S) (hE : EncM S M) (hg : g ≤ 3) : f_Mo_nextThread M 62 (nI g) = nI (mNx M S g) ∧ pre_Mo_nextThread M 62 (nI g) := m_nxL hW hP hI hE 4 g (by omega) hg
/-- the result of a thread, as both sides tell it -/
def mRes (M : cs_Mem) (S : Ms) (t : Nat) : Int32 := if mEnd M S t = true then nI (mFl S t) else if mNx M S 0 = 3 then 50 else -1
theorem nx3 {M : cs_Mem} {S : Ms} : mNx M S 0 = 3 ↔ mAb M S 0 = false ∧ mAb M S 1 = false ∧ mAb M S 2 = false := by
  unfold mNx
  cases mAb M S 0 <;> cases mAb M S 1 <;> cases mAb M S 2 <;> simp
theorem m_res {M : cs_Mem} {S : Ms} {t : Nat} (hW : WP M) (hP : PRel M) (hI : InvS M S) (hE : EncM S M) (ht : t < 3) : f_Mo_resultNow M 62 (nI t) = mRes M S t ∧ pre_Mo_resultNow M 62 (nI t) := by
  have hw := m_waits hW hP hI hE ht
  have h0 := m_can hW hP hI hE (t := 0) (by omega)
  have h1 := m_can hW hP hI hE (t := 1) (by omega)
  have h2 := m_can hW hP hI hE (t := 2) (by omega)
  have k0 : f_Mo_canStep M 62 0 = bI (mAb M S 0) ∧ pre_Mo_canStep M 62 0 := h0
  have k1 : f_Mo_canStep M 62 1 = bI (mAb M S 1) ∧ pre_Mo_canStep M 62 1 := h1
  have k2 : f_Mo_canStep M 62 2 = bI (mAb M S 2) ∧ pre_Mo_canStep M 62 2 := h2
  have i84 : vp_in (nI t) (cs_ln M 84) := vp_in_nI (N := 3) ht (by omega)
  unfold f_Mo_resultNow pre_Mo_resultNow f_Mo_resultNow_J40 pre_Mo_resultNow_J40 mRes
  simp only [cs_bd_eq]
  rw [nI_clamp (by omega), hE.2 t ht, hw.1, k0.1, k1.1, k2.1]
  cases he : mEnd M S t with
  | true =>
    have hp : ¬ nI (mFl S t) < 0 := npos (by have := fl_le hI ht; omega)
    rw [if_pos rfl, if_pos rfl, if_neg hp]
    exact ⟨rfl, i84, fun q => absurd q hp, fun _ => ⟨i84, trivial⟩⟩
  | false =>
    rw [if_neg (show ¬ false = true from by decide), if_neg (show ¬ false = true from by decide), if_pos m1lt0]
    refine ⟨?_, i84, fun _ => ⟨k0.2, fun _ => ⟨k1.2, fun _ => ⟨k2.2, fun _ => ⟨hw.2, trivial⟩, fun _ => ⟨hw.2, trivial⟩⟩, fun _ => ⟨hw.2, trivial⟩⟩, fun _ => ⟨hw.2, trivial⟩⟩, fun q => absurd m1lt0 q⟩
    have nn : mAb M S t = false → (mWt M S t).isSome = true := by
      unfold mAb
      rw [he]
      cases mWt M S t <;> simp
    have e3 : (mNx M S 0 = 3) ↔ mAb M S 0 = false ∧ mAb M S 1 = false ∧ mAb M S 2 = false := nx3
    have cm : ∀ (b : Bool), (if bI b = 0 then (-1 : Int32) else -1) = -1 := fun b => by cases b <;> rfl
    rw [cm]
    by_cases q : mNx M S 0 = 3
    · have ⟨b0, b1, b2⟩ := e3.mp q
      have hs := nn (by rcases (show t = 0 ∨ t = 1 ∨ t = 2 by omega) with rfl | rfl | rfl <;> assumption)
      rw [if_pos q, b0, b1, b2, hs]
      rfl
    · rw [if_neg q]
      cases b0 : mAb M S 0 with
      | true => rfl
      | false =>
        cases b1 : mAb M S 1 with
        | true => rfl
        | false =>
          cases b2 : mAb M S 2 with
          | true => rfl
          | false => exact absurd (e3.mpr ⟨b0, b1, b2⟩) q
