theorem PE.use {M N : cs_Mem} (h : PE M N) {S : Ms} {t x : Nat} (hT : mTop S t < 11) : mUse N S t x = mUse M S t x := by
  unfold mUse
  rw [h.N, h.come hT, h.come hT, h.made hT]
theorem PE.perf {M N : cs_Mem} (h : PE M N) {S : Ms} {t : Nat} (hT : mTop S t < 11) : mPerf N S t = mPerf M S t := by
  unfold mPerf
  rw [h.A hT, h.X hT, h.Y hT, h.made hT, h.come hT, h.come hT]
theorem PE.inv {M N : cs_Mem} (h : PE M N) {S : Ms} (hI : InvS M S) : InvS N S := by
  obtain ⟨i1, i2, i3, i4, i5, i6, i7⟩ := id hI
  refine ⟨i1, ?_, i3, fun f hf => by rw [h.L hf]; exact i4 f hf, fun t ht c l1 l2 e => ?_, fun t ht => ?_, i7⟩
  · rw [h.N]; exact i2
  · have hl : mTopL l2 t < 11 := by
      cases l2 with
      | nil => show 8 + t < 11; omega
      | cons d l =>
        have := (i2 t ht).2 d (by rw [e]; simp)
        show d < 11
        omega
    rw [h.L hl]
    exact i5 t ht c l1 l2 e
  · rw [h.L (top_lt hI ht)]
    exact i6 t ht
theorem fout_in {v : Nat} (h1 : 1 ≤ v) (h : v ≤ 40) : 1 ≤ fout v ∧ fout v ≤ 40 := by
  unfold fout
  split <;> omega
theorem sk_lt {M : cs_Mem} {S : Ms} {t : Nat} (hI : InvS M S) (ht : t < 3) : ∀ c, c ∈ mSk S t → c < 8 := fun c hc => ((hI.2.1 t ht).2 c hc).1
theorem topL_lt {M : cs_Mem} {S : Ms} {t d : Nat} {l : List Nat} (hI : InvS M S) (ht : t < 3) (h : mSk S t = d :: l) : mTopL l t < 11 := by
  cases l with
  | nil => show 8 + t < 11; omega
  | cons e l =>
    have := sk_lt hI ht e (by rw [h]; simp)
    show e < 11
    omega
theorem c_fin {M : cs_Mem} {S : Ms} {j k t d : Nat} {l : List Nat} (hj : j = 52 ∨ j = 56) (hW : WP M) (hI : InvS M S) (hE : EncC S k (M (j + 1))) (ht : t < 3) (hs : mSk S t = d :: l) :
    pre_Ma_finishTop M j (nI t) ∧ R3 S (mMade M (mPop S t 1) t) k M (f_Ma_finishTop M j (nI t)) j := by
  have w := c_drop (v := 1) hj hE ht (top_lt hI ht) (sk_lt hI ht)
  have w2 : R3 S (mPop S t 1) k M (f_Ma_dropTop M j (nI t) 1) j := w.2
  have e0 : mPop S t 1 = (va_up (mSt S) d 1, mS0 S, va_up (mSk S) t l, mPr S, mFl S, mLg S) := by unfold mPop; rw [hs]
  have hT : mTop (mPop S t 1) t = mTopL l t := by rw [e0]; simp [mTop, mSk, va_up]
  have hTl := topL_lt hI ht hs
  have hp := w2.pe hj
  have hP : mPr (mPop S t 1) (mTop (mPop S t 1) t) ≤ pgL (f_Ma_dropTop M j (nI t) 1) (mTop (mPop S t 1) t) := by
    rw [hT, hp.L hTl]
    have := hI.2.2.2.2.1 t ht d [] l hs
    rw [e0]
    exact Nat.le_of_lt this
  have g := c_made hj (hp.wp hW) w2.1 ht (by rw [hT]; exact hTl) hP
  constructor
  · unfold pre_Ma_finishTop
    simp only [cs_bd_prop]
    exact ⟨w.1, g.1, trivial⟩
  · unfold f_Ma_finishTop
    simp only [cs_bd_eq]
    have g2 := g.2
    rw [hp.made (by rw [hT]; exact hTl)] at g2
    exact w2.trans g2
theorem c_fail {M : cs_Mem} {S : Ms} {j k t d : Nat} {l : List Nat} (hj : j = 52 ∨ j = 56) (hW : WP M) (hI : InvS M S) (hE : EncC S k (M (j + 1))) (ht : t < 3) (hs : mSk S t = d :: l) (hf : ¬ mFl S t = 0) (hl : (mLg (mCome M (mPop (mSetF S t 0) t 2) t (fout (mFl S t)))).length = (mLg S).length ∨ (mLg S).length < 49) :
    pre_Ma_failTop M j (nI t) ∧ R3 S (mCome M (mPop (mSetF S t 0) t 2) t (fout (mFl S t))) k M (f_Ma_failTop M j (nI t)) j := by
  have h40 := fl_le hI ht
  have w1 : R3 S (mSetF S t 0) k M (cs_up M (j + 1) (upd (M (j + 1)) (38 + t) (nI 0))) j := R3.row (hE.setF ht) rfl
  have hT0 : mTop (mSetF S t 0) t = mTop S t := rfl
  have w := c_drop (v := 2) hj w1.1 ht (by rw [hT0]; exact top_lt hI ht) (fun c hc => sk_lt hI ht c hc)
  have w2 : R3 (mSetF S t 0) (mPop (mSetF S t 0) t 2) k _ (f_Ma_dropTop (cs_up M (j + 1) (upd (M (j + 1)) (38 + t) 0)) j (nI t) 2) j := w.2
  have w3 := w1.trans w2
  have hp := w3.pe hj
  have e0 : mPop (mSetF S t 0) t 2 = (va_up (mSt S) d 2, mS0 S, va_up (mSk S) t l, mPr S, va_up (mFl S) t 0, mLg S) := by
    unfold mPop
    rw [show mSk (mSetF S t 0) t = d :: l from hs]
    rfl
  have hT : mTop (mPop (mSetF S t 0) t 2) t = mTopL l t := by rw [e0]; simp [mTop, mSk, va_up]
  have hTl := topL_lt hI ht hs
  have hP : mPr (mPop (mSetF S t 0) t 2) (mTop (mPop (mSetF S t 0) t 2) t) ≤ pgL (f_Ma_dropTop (cs_up M (j + 1) (upd (M (j + 1)) (38 + t) 0)) j (nI t) 2) (mTop (mPop (mSetF S t 0) t 2) t) := by
    rw [hT, hp.L hTl]
    have := hI.2.2.2.2.1 t ht d [] l hs
    rw [e0]
    exact Nat.le_of_lt this
  have hfo := fout_in (v := mFl S t) (by omega) h40
  have elg : mLg (mPop (mSetF S t 0) t 2) = mLg S := by rw [e0]; rfl
  have g := c_come (v := fout (mFl S t)) hj (hp.wp hW) w3.1 ht (by rw [hT]; exact hTl) hP hfo.1 hfo.2 (fun gd => by
    rw [elg]
    rcases hl with h | h
    · rw [hp.A (by rw [hT]; exact hTl)] at gd
      rw [come_lg gd, elg] at h
      omega
    · exact h)
  have ef : M (j + 1) (38 + nI t).toNatClampNeg = nI (mFl S t) := by rw [ix38 (by omega)]; exact hE.2.2.2.2.1 t ht
  constructor
  · unfold pre_Ma_failTop
    simp only [cs_bd_prop]
    rw [ef, ix38 (by omega), c_out h40]
    exact ⟨by rw [hcl hj]; exact inK 38 t 43 (by omega) (by omega), by rw [hcl hj]; exact inK 38 t 43 (by omega) (by omega), w.1, g.1, trivial⟩
  · unfold f_Ma_failTop
    simp only [cs_bd_eq]
    rw [ef, ix38 (by omega), c_out h40]
    have g2 := g.2
    rw [hp.come (by rw [hT]; exact hTl)] at g2
    exact w3.trans g2
theorem c_adv {M : cs_Mem} {S : Ms} {j k t : Nat} (hj : j = 52 ∨ j = 56) (hW : WP M) (hI : InvS M S) (hE : EncC S k (M (j + 1))) (ht : t < 3) (hne : mEnd M S t = false) (hl : (mLg (mStep M S t)).length = (mLg S).length ∨ (mLg S).length < 49) :
    pre_Ma_advance M j (nI t) ∧ R3 S (mStep M S t) (k + 1) M (f_Ma_advance M j (nI t)) j := by
  have e41 : M (j + 1) 41 = nI k := hE.2.2.2.2.2.2.1
  have w0 : R3 S S (k + 1) M (cs_up M (j + 1) (upd (M (j + 1)) 41 (M (j + 1) 41 + 1))) j := by
    rw [e41]
    exact R3.row hE.tick rfl
  generalize hN : cs_up M (j + 1) (upd (M (j + 1)) 41 (M (j + 1) 41 + 1)) = N at w0
  have hp := w0.pe hj
  have hW' := hp.wp hW
  have hI' := hp.inv hI
  have hE' := w0.1
  have hT := top_lt hI ht
  have hP := hI.2.2.2.1 _ hT
  have hL := wpL hW hT
  have et := c_top hE' ht
  have ep : N (j + 1) (24 + nI (mTop S t)).toNatClampNeg = nI (mPr S (mTop S t)) := by rw [ix24 (by omega)]; exact hE'.2.2.1 _ hT
  have eu : f_Pr_usedBy N 1 (nI (mTop S t)) (nI (mPr S (mTop S t))) = uI (us M (mTop S t) (mPr S (mTop S t))) := by rw [c_used hW' hT (by omega), hp.uso hT]
  have ef : N (j + 1) (38 + nI t).toNatClampNeg = nI (mFl S t) := by rw [ix38 (by omega)]; exact hE'.2.2.2.2.1 t ht
  have eb : f_Ma_isBehindLast N j (nI (mTop S t)) = if pgL M (mTop S t) ≤ mPr S (mTop S t) then 1 else 0 := by rw [c_beh hW' hI' hE' hT, hp.L hT]
  have h0 := nI0 (a := mFl S t) (by have := fl_le hI ht; omega)
  have pre0 : ∀ G : Prop, G → (vp_in 41 (cs_ln M (j + 1)) ∧ vp_in 41 (cs_ln M (j + 1)) ∧ pre_Ma_topFrame N j (nI t) ∧ vp_in (24 + nI (mTop S t)) (cs_ln N (j + 1)) ∧ pre_Pr_usedBy N 1 (nI (mTop S t)) (nI (mPr S (mTop S t))) ∧ vp_in (38 + nI t) (cs_ln N (j + 1)) ∧ G) := fun G g => ⟨in42 hj 41 (by omega), in42 hj 41 (by omega), p_top hj ht, by rw [hcl hj]; exact inK 24 _ 43 (by omega) (by omega), p_used hW' hT (by omega), by rw [hcl hj]; exact inK 38 t 43 (by omega) (by omega), g⟩
  unfold pre_Ma_advance f_Ma_advance
  simp only [cs_bd_prop, cs_bd_eq]
  rw [hN, et, ep, eu, ef, eb]
  by_cases hf : mFl S t = 0
  · rw [if_pos (h0.mpr hf)]
    by_cases hb : pgL M (mTop S t) ≤ mPr S (mTop S t)
    · have em : mStep M S t = mMade M (mPop S t 1) t := by unfold mStep; rw [if_pos hf, if_pos hb]
      rw [em, if_pos hb, if_neg (show ¬ (1 : Int32) = 0 by decide)]
      cases hs : mSk S t with
      | nil =>
        have hT8 : mTop S t = 8 + t := by unfold mTop; rw [hs]; rfl
        rw [hT8] at hb
        unfold mEnd at hne
        rw [hs] at hne
        simp [hb] at hne
      | cons d l =>
        have g := c_fin hj hW' hI' hE' ht hs
        have e0 : mTop (mPop S t 1) t = mTopL l t := by unfold mPop; rw [hs]; simp [mTop, mSk, va_up]
        have g2 := g.2
        rw [hp.made (by rw [e0]; exact topL_lt hI ht hs)] at g2
        exact ⟨pre0 _ ⟨fun _ => ⟨p_beh hj hT, fun q => absurd q (by decide), fun _ => ⟨g.1, trivial⟩⟩, fun q => absurd (h0.mpr hf) q⟩, w0.trans g2⟩
    · rw [if_neg hb, if_pos rfl]
      cases hu : us M (mTop S t) (mPr S (mTop S t)) with
      | none =>
        have em : mStep M S t = mPerf M S t := by unfold mStep; rw [if_pos hf, if_neg hb, hu]
        rw [em] at hl ⊢
        have g := c_perf hj hW' hI' hE' ht (by rw [hp.L hT]; omega) (by rw [hp.perf hT]; exact hl)
        have g2 := g.2
        rw [hp.perf hT] at g2
        rw [if_pos (show uI none = -1 from rfl)]
        exact ⟨pre0 _ ⟨fun _ => ⟨p_beh hj hT, fun _ => ⟨fun _ => ⟨g.1, trivial⟩, fun q => absurd rfl q⟩, fun q => absurd rfl q⟩, fun q => absurd (h0.mpr hf) q⟩, w0.trans g2⟩
      | some x =>
        have hx := us_lt hW hT hu
        have em : mStep M S t = mUse M S t x := by unfold mStep; rw [if_pos hf, if_neg hb, hu]
        rw [em] at hl ⊢
        have g := c_use hj hW' hI' hE' ht hx (by rw [hp.use hT]; exact hl)
        have g2 := g.2
        rw [hp.use hT] at g2
        rw [if_neg (show ¬ uI (some x) = -1 from nI_m1 (by omega))]
        exact ⟨pre0 _ ⟨fun _ => ⟨p_beh hj hT, fun _ => ⟨fun q => absurd q (nI_m1 (by omega)), fun _ => ⟨g.1, trivial⟩⟩, fun q => absurd rfl q⟩, fun q => absurd (h0.mpr hf) q⟩, w0.trans g2⟩
  · have em : mStep M S t = mCome M (mPop (mSetF S t 0) t 2) t (fout (mFl S t)) := by unfold mStep; rw [if_neg hf]
    rw [em] at hl ⊢
    rw [if_neg (fun q => hf (h0.mp q))]
    cases hs : mSk S t with
    | nil =>
      unfold mEnd at hne
      rw [hs] at hne
      simp [hf] at hne
    | cons d l =>
      have e0 : mTop (mPop (mSetF S t 0) t 2) t = mTopL l t := by
        unfold mPop
        rw [show mSk (mSetF S t 0) t = d :: l from hs]
        simp [mTop, mSk, va_up]
      have g := c_fail hj hW' hI' hE' ht hs hf (by rw [hp.come (by rw [e0]; exact topL_lt hI ht hs)]; exact hl)
      have g2 := g.2
      rw [hp.come (by rw [e0]; exact topL_lt hI ht hs)] at g2
      exact ⟨pre0 _ ⟨fun q => absurd (h0.mp q) hf, fun _ => ⟨g.1, trivial⟩⟩, w0.trans g2⟩
