def FV (S : Ms) : Prop := ∀ t, t < 3 → mFl S t = 0 ∨ fv (mFl S t)
theorem fv_set {S : Ms} {t v : Nat} (h : FV S) (hv : v = 0 ∨ fv v) : FV (mSetF S t v) := by
  intro u hu
  show va_up (mFl S) t v u = 0 ∨ fv (va_up (mFl S) t v u)
  by_cases q : u = t
  · rw [q, va_up_self]; exact hv
  · rw [va_up_ne _ _ q]; exact h u hu
theorem fv_pop {S : Ms} {t v : Nat} (h : FV S) : FV (mPop S t v) := by
  unfold mPop
  split
  · exact h
  · exact h
theorem fv_come {M : cs_Mem} {S : Ms} {t v : Nat} (h : FV S) (hv : fv v) : FV (mCome M S t v) := by
  unfold mCome
  split
  · exact h
  · exact fv_set h (Or.inr hv)
theorem fv_made {M : cs_Mem} {S : Ms} {t : Nat} (h : FV S) : FV (mMade M S t) := by
  unfold mMade
  split
  · exact h
  · exact h
theorem fv_out {v : Nat} (h : fv v) : fv (fout v) := by
  unfold fv fout at *
  split <;> omega
theorem fv_step {M : cs_Mem} {S : Ms} {t : Nat} (hW : WP M) (hI : InvS M S) (h : FV S) (ht : t < 3) : FV (mStep M S t) := by
  have hT := top_lt hI ht
  unfold mStep
  split
  · split
    · exact fv_made (fv_pop h)
    · rename_i hp
      split
      · unfold mUse
        split
        · split
          · exact h
          · split
            · exact fv_come h (by unfold fv; omega)
            · exact fv_made h
        · exact fv_come h (by unfold fv; omega)
      · obtain ⟨e, e1, e2, _, _, e5, e6, _⟩ := wpA hW hT (p := mPr S (mTop S t)) (by omega)
        unfold mPerf
        split
        · exact h
        · split
          · exact fv_made h
          · split
            · rename_i g
              have : e = 3 := by
                rw [g] at e1
                exact ((neq (a := 3) (b := e) (by omega) (by omega)).mp e1).symm
              obtain ⟨x, x1, x2⟩ := e5 (Or.inl this)
              rw [x2, nI_clamp (by omega)]
              exact fv_come h (by unfold fv; omega)
            · split
              · rename_i g
                have : e = 4 := by
                  rw [g] at e1
                  exact ((neq (a := 4) (b := e) (by omega) (by omega)).mp e1).symm
                obtain ⟨x, x1, x2⟩ := e5 (Or.inr this)
                rw [x2, nI_clamp (by omega)]
                exact fv_come h (by unfold fv; omega)
              · split
                · exact h
                · exact h
  · rename_i hf
    refine fv_come (fv_pop (fv_set h (Or.inl rfl))) (fv_out ?_)
    rcases h t ht with q | q
    · exact absurd q hf
    · exact q
theorem ab_end {M : cs_Mem} {S : Ms} {t : Nat} (h : mAb M S t = true) : mEnd M S t = false ∧ mWt M S t = none := by
  unfold mAb at h
  cases h1 : mEnd M S t <;> cases h2 : mWt M S t <;> rw [h1, h2] at h <;> first | exact ⟨rfl, rfl⟩ | cases h
theorem m_stepOf {M : cs_Mem} {S : Ms} {t : Nat} (hW : WP M) (hP : PRel M) (hI : InvS M S) (hV : FV S) (hE : EncM S M) (ht : t < 3) (hab : mAb M S t = true) (hlg : (mLg S).length < 600) : pre_Mo_stepOf M 62 (nI t) ∧ KM M (f_Mo_stepOf M 62 (nI t)) ∧ EncM (mStep M S t) (f_Mo_stepOf M 62 (nI t)) := by
  obtain ⟨hne, hwt⟩ := ab_end hab
  have hT := top_lt hI ht
  have hl := sk_len hI ht
  have hL := wpL hW hT
  have hpr := pr_le hW hI hT
  have hE1 := hE.op ht hne
  have hq := m_parts hW hP hI hE.1 ht
  have hu := m_used hW hP hI hE.1 ht
  have i83 : vp_in (nI t) (cs_ln M 83) := vp_in_nI (N := 3) ht (by omega)
  have i81 : vp_in (nI (9 * t + (mSk S t).length)) (cs_ln M 81) := in9 ht hl
  have i80 : vp_in (nI (9 * t + (mSk S t).length)) (cs_ln M 80) := in9 ht hl
  unfold pre_Mo_stepOf f_Mo_stepOf mStep
  simp only [cs_bd_eq]
  rw [nI_clamp (n := t) (by omega), e83 hE.1 ht hne]
  by_cases hf : mFl S t = 0
  · rw [if_pos hf, if_pos hf, if_pos m1lt0, m_top hE.1 ht, ix9 ht hl, hq.1, m_f81 hE.1 ht, hu.1]
    by_cases hp : pgL M (mTop S t) ≤ mPr S (mTop S t)
    · have hp' : ¬ nI (mPr S (mTop S t)) < nI (pgL M (mTop S t)) := fun q => absurd ((nlt (by omega) (by omega)).mp q) (by omega)
      rw [if_neg hp', if_pos hp]
      rcases top_cases (S := S) (t := t) with ⟨a1, a2⟩ | ⟨d, l, a1, a2⟩
      · have := end_fl hne a1
        rw [a2] at hp
        omega
      · have lv := m_leave (v := 1) hI hE1 ht a1 hf
        have p1 := inv_pop hI ht (v := 1) (Or.inl rfl) a1 hf
        have pe := lv.2.1.pe
        have hT2 : mTop (mPop S t 1) t < 11 := top_lt p1.1 ht
        have md := m_made (pe.wp hW) (lv.2.1.prel hW hP) (pe.inv p1.1) lv.2.2 ht (by rw [pe.L hT2]; exact p1.2.1) p1.2.2
        rw [pe.made hT2] at md
        exact ⟨⟨i83, fun _ => ⟨mp_top ht, i81, i80, hq.2, fun q => absurd q hp', fun _ => ⟨lv.1, md.1, trivial⟩⟩, fun q => absurd m1lt0 q⟩, lv.2.1.trans md.2.1, md.2.2⟩
    · have hp' : nI (mPr S (mTop S t)) < nI (pgL M (mTop S t)) := (nlt (by omega) (by omega)).mpr (by omega)
      rw [if_pos hp', if_neg hp]
      cases hus : us M (mTop S t) (mPr S (mTop S t)) with
      | none =>
        have ac := m_action hW hP hI hE1 ht (by omega) hf hlg hus
        have e1 : vI M none < 0 := m1lt0
        rw [if_pos e1]
        exact ⟨⟨i83, fun _ => ⟨mp_top ht, i81, i80, hq.2, fun _ => ⟨hu.2, fun _ => ⟨ac.1, trivial⟩, fun q => absurd e1 q⟩, fun q => absurd hp' q⟩, fun q => absurd m1lt0 q⟩, ac.2⟩
      | some x =>
        have hx := us_lt hW hT hus
        have hw : 4 ≤ mSt S x → mSt S x = 4 + t := by
          intro h4
          unfold mWt at hwt
          rw [if_pos hf, hus] at hwt
          by_cases q : mSt S x = 4 + t
          · exact q
          · have hwt : (if 4 ≤ mSt S x ∧ ¬ mSt S x = 4 + t then some x else none) = none := hwt
            rw [if_pos ⟨h4, q⟩] at hwt
            cases hwt
        have uo := m_useOf hW hP hI hE1 ht hx (by omega) hf hlg hw
        have e1 : ¬ vI M (some x) < 0 := by
          show ¬ (if x < pgN M then nI x else nI (100 + x)) < 0
          split
          · exact npos (by omega)
          · exact npos (by omega)
        rw [if_neg e1]
        exact ⟨⟨i83, fun _ => ⟨mp_top ht, i81, i80, hq.2, fun _ => ⟨hu.2, fun q => absurd q e1, fun _ => ⟨uo.1, trivial⟩⟩, fun q => absurd hp' q⟩, fun q => absurd m1lt0 q⟩, uo.2⟩
  · have hfl := fl_le hI ht
    have n0 : ¬ nI (mFl S t - 1) < 0 := npos (by omega)
    rw [if_neg hf, if_neg hf, if_neg n0]
    rcases top_cases (S := S) (t := t) with ⟨a1, a2⟩ | ⟨d, l, a1, a2⟩
    · exact absurd (end_fl hne a1).1 hf
    · have k0 : KM M (cs_up M 83 (upd (M 83) t (-1))) := KM.up (by omega) (by omega)
      have hE2 : EncT (mSetF S t 0) (cs_up M 83 (upd (M 83) t (-1))) t := ⟨B_setF0 hE.1, hE1.2.keep so_setF k0.pe rfl⟩
      have z : mFl (mSetF S t 0) t = 0 := va_up_self _ _ _
      have hI2 := inv_setF0 (t := t) hI
      have lv := m_leave (v := 2) (k0.pe.inv hI2) hE2 ht a1 z
      have p1 := inv_pop hI2 ht (v := 2) (Or.inr rfl) a1 z
      have k1 := k0.trans lv.2.1
      have pe := k1.pe
      have hT2 : mTop (mPop (mSetF S t 0) t 2) t < 11 := top_lt p1.1 ht
      have hlg2 : (mLg (mPop (mSetF S t 0) t 2)).length < 600 := by
        have : mLg (mPop (mSetF S t 0) t 2) = mLg S := by unfold mPop; split <;> rfl
        rw [this]
        exact hlg
      have hv : fv (mFl S t) := by
        rcases hV t ht with q | q
        · exact absurd q hf
        · exact q
      have cm := m_come (v := fout (mFl S t)) (pe.wp hW) (k1.prel hW hP) (pe.inv p1.1) lv.2.2 ht (fv_out hv) (by rw [pe.L hT2]; exact p1.2.1) p1.2.2 hlg2
      rw [pe.come hT2] at cm
      have lv1 : pre_Mo_leave (cs_up M 83 (upd (M 83) t (-1))) 62 (nI t) 2 := lv.1
      by_cases h10 : 11 ≤ mFl S t
      · have c10 : (10 : Int32) ≤ nI (mFl S t - 1) := (nle (a := 10) (by omega) (by omega)).mpr (by omega)
        have ef : fout (mFl S t) = mFl S t := by unfold fout; rw [if_neg (by omega)]
        rw [ef] at cm ⊢
        rw [if_pos c10]
        exact ⟨⟨i83, fun q => absurd q n0, fun _ => ⟨i83, fun _ => ⟨i83, i83, lv1, cm.1, trivial⟩, fun q => absurd c10 q⟩⟩, k1.trans cm.2.1, cm.2.2⟩
      · have c10 : ¬ (10 : Int32) ≤ nI (mFl S t - 1) := fun q => absurd ((nle (a := 10) (by omega) (by omega)).mp q) (by omega)
        have ef : fout (mFl S t) = 30 + mFl S t := by unfold fout; rw [if_pos (by omega)]
        have e30 : (30 : Int32) + nI (mFl S t - 1) = nI (30 + mFl S t - 1) := by
          rw [show (30 : Int32) = nI 30 from rfl, nI_add]
          exact congrArg nI (by omega)
        rw [ef] at cm ⊢
        rw [if_neg c10, e30]
        exact ⟨⟨i83, fun q => absurd q n0, fun _ => ⟨i83, fun q => absurd q c10, fun _ => ⟨i83, i83, lv1, cm.1, trivial⟩⟩⟩, k1.trans cm.2.1, cm.2.2⟩
