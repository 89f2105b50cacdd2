def fv (v : Nat) : Prop := (1 ≤ v ∧ v ≤ 22) ∨ (31 ≤ v ∧ v ≤ 40)
theorem m_las {M : cs_Mem} {v : Nat} (h : fv v) : f_Mo_loggedAs M (nI (v - 1)) = fnum v := by
  unfold fv at h
  have : ∀ w, w < 41 → ((1 ≤ w ∧ w ≤ 22) ∨ (31 ≤ w ∧ w ≤ 40)) → (if nI (w - 1) < 30 then if nI (w - 1) = 20 then (-1 : Int32) else if nI (w - 1) = 21 then -2 else nI (w - 1) - nI (w - 1) / 10 * 10 else 70 + nI (w - 1)) = fnum w := by decide +kernel
  exact this v (by omega) h
theorem m_resof {M : cs_Mem} {v : Nat} (h1 : 1 ≤ v) : f_Mo_resultOf M (nI (v - 1)) = nI v := by
  unfold f_Mo_resultOf
  have e : (1 : Int32) + nI (v - 1) = nI v := by
    rw [show (1 : Int32) = nI 1 from rfl, nI_add]
    exact congrArg nI (by omega)
  rw [e]
  split
  · split <;> rfl
  · rfl
theorem m_J61 {M : cs_Mem} {S : Ms} {t v : Nat} (hW : WP M) (hI : InvS M S) (hE : EncT S M t) (ht : t < 3) (h1 : 1 ≤ v) : pre_Mo_come_J61 M 62 (nI t) (nI (v - 1)) (nI (9 * t + (mSk S t).length)) ∧ KM M (f_Mo_come_J61 M 62 (nI t) (nI (v - 1)) (nI (9 * t + (mSk S t).length))) ∧ EncM (mSetF S t v) (f_Mo_come_J61 M 62 (nI t) (nI (v - 1)) (nI (9 * t + (mSk S t).length))) := by
  have hl := sk_len hI ht
  have hm : ¬ (0 : Int32) ≤ -1 := by decide
  unfold pre_Mo_come_J61 f_Mo_come_J61
  simp only [cs_bd_eq]
  rw [ix9 ht hl, m_f80 hE.1 ht, m_resof h1, nI_clamp (by omega)]
  have i80 : vp_in (nI (9 * t + (mSk S t).length)) (cs_ln M 80) := in9 ht hl
  have i83 : vp_in (nI t) (cs_ln M 83) := vp_in_nI (N := 3) ht (by omega)
  have i84 : vp_in (nI t) (cs_ln M 84) := vp_in_nI (N := 3) ht (by omega)
  rcases top_cases (S := S) (t := t) with ⟨a1, a2⟩ | ⟨c, l, a1, a2⟩
  · rw [if_pos a1, if_neg hm]
    refine ⟨⟨i80, fun q => absurd q hm, fun _ => ⟨i84, trivial⟩⟩, KM.up (by omega) (by omega), B_setFp hE.1 a1, fun u hu => ?_⟩
    have pe : PE M (cs_up M 84 (upd (M 84) t (nI v))) := (KM.up (by omega) (by omega)).pe
    rw [cs_up_self, pe.eend hu]
    by_cases q : u = t
    · subst q
      have ef : mFl (mSetF S u v) u = v := va_up_self _ _ _
      rw [up_s, ef, if_pos ?_]
      unfold mEnd
      rw [show mSk (mSetF S u v) u = [] from a1, ef]
      have : ¬ v = 0 := by omega
      simp [this]
    · rw [up_n q, end_so so_setF hu q, (so_setF (S := S) (v := v) u hu q).2.1]
      exact hE.2.1 u hu q
  · have hc := sk_n hI ht a1
    have p0 : (0 : Int32) ≤ nI (mTop S t) := npos' (by omega)
    rw [if_neg (skn a1), if_pos p0]
    have k : KM M (cs_up M 83 (upd (M 83) t (nI (v - 1)))) := KM.up (by omega) (by omega)
    refine ⟨⟨i80, fun _ => ⟨i83, trivial⟩, fun q => absurd p0 q⟩, k, ?_⟩
    refine EncT.close (t := t) ⟨B_setF hE.1 (skn a1) h1, hE.2.keep so_setF k.pe rfl⟩ ?_
    unfold mEnd
    rw [show mSk (mSetF S t v) t = c :: l from a1]
theorem m_come {M : cs_Mem} {S : Ms} {t v : Nat} (hW : WP M) (hP : PRel M) (hI : InvS M S) (hE : EncT S M t) (ht : t < 3) (hv : fv v) (hp : mPr S (mTop S t) < pgL M (mTop S t)) (hf : mFl S t = 0) (hlg : (mLg S).length < 600) : pre_Mo_come M 62 (nI t) (nI (v - 1)) ∧ KM M (f_Mo_come M 62 (nI t) (nI (v - 1))) ∧ EncM (mCome M S t v) (f_Mo_come M 62 (nI t) (nI (v - 1))) := by
  have hl := sk_len hI ht
  have hT := top_lt hI ht
  have hU := wpU hW hT
  have hL := wpL hW hT
  have h1 : 1 ≤ v := by unfold fv at hv; omega
  have hu := m_usesT hW hP hI hE.1 ht
  have ha := m_act hW hP hI hE.1 ht (p := mPr S (mTop S t)) (by omega)
  have hj := m_J61 hW hI hE ht h1
  have i81 : vp_in (nI (9 * t + (mSk S t).length)) (cs_ln M 81) := in9 ht hl
  have i80 : vp_in (nI (9 * t + (mSk S t).length)) (cs_ln M 80) := in9 ht hl
  unfold pre_Mo_come f_Mo_come
  simp only [cs_bd_eq]
  rw [m_top hE.1 ht, ix9 ht hl, m_f81 hE.1 ht, ha.1, hu.1, m_las hv]
  by_cases h : mPr S (mTop S t) ≤ pgU M (mTop S t)
  · have hng : ¬ (0 < mPr S (mTop S t) ∧ pgA M (mTop S t) (mPr S (mTop S t) - 1) = 6) := by
      intro g
      obtain ⟨a, e, _, _, _, _, wU, _⟩ := wpA hW hT (p := mPr S (mTop S t) - 1) (by omega)
      rw [wU (by omega), g.2] at e
      exact absurd e (by decide)
    have ec : mCome M S t v = mSetF S t v := by unfold mCome; rw [if_neg hng]
    rw [ec]
    by_cases h2 : mPr S (mTop S t) < pgU M (mTop S t)
    · have em : mAt M (mTop S t) (mPr S (mTop S t)) = -1 := by unfold mAt; rw [if_pos h2]
      rw [em, if_pos m1lt0]
      exact ⟨⟨mp_top ht, i81, ha.2, fun _ => hj.1, fun q => absurd m1lt0 q⟩, hj.2⟩
    · have em : mAt M (mTop S t) (mPr S (mTop S t)) = nI (5 * mTop S t + (mPr S (mTop S t) - pgU M (mTop S t))) := by unfold mAt; rw [if_neg h2, if_pos hp]
      have n0 : ¬ nI (5 * mTop S t + (mPr S (mTop S t) - pgU M (mTop S t))) < 0 := npos (by omega)
      have hle : nI (mPr S (mTop S t)) ≤ nI (pgU M (mTop S t)) := (nle (by omega) (by omega)).mpr h
      rw [em, if_neg n0, if_pos hle]
      exact ⟨⟨mp_top ht, i81, ha.2, fun q => absurd q n0, fun _ => ⟨i81, i80, hu.2, fun _ => hj.1, fun q => absurd hle q⟩⟩, hj.2⟩
  · have em : mAt M (mTop S t) (mPr S (mTop S t)) = nI (5 * mTop S t + (mPr S (mTop S t) - pgU M (mTop S t))) := by unfold mAt; rw [if_neg (by omega), if_pos hp]
    have n0 : ¬ nI (5 * mTop S t + (mPr S (mTop S t) - pgU M (mTop S t))) < 0 := npos (by omega)
    have hle : ¬ nI (mPr S (mTop S t)) ≤ nI (pgU M (mTop S t)) := fun q => h ((nle (by omega) (by omega)).mp q)
    have e1 : nI (5 * mTop S t + (mPr S (mTop S t) - pgU M (mTop S t))) - 1 = nI (5 * mTop S t + ((mPr S (mTop S t) - 1) - pgU M (mTop S t))) := by
      rw [show 5 * mTop S t + (mPr S (mTop S t) - pgU M (mTop S t)) = (5 * mTop S t + ((mPr S (mTop S t) - 1) - pgU M (mTop S t))) + 1 by omega, nI_pred]
    have i72 : vp_in (nI (5 * mTop S t + ((mPr S (mTop S t) - 1) - pgU M (mTop S t)))) (cs_ln M 72) := vp_in_nI (N := 55) (by omega) (by omega)
    rw [em, if_neg n0, if_neg hle, e1, nI_clamp (by omega), (m_rows hP hT (p := mPr S (mTop S t) - 1) (by omega) (by omega)).1]
    by_cases g : pgA M (mTop S t) (mPr S (mTop S t) - 1) = 6
    · have ec : mCome M S t v = mIncP (mLog S (fnum v)) (mTop S t) := by unfold mCome; rw [if_pos ⟨by omega, g⟩]
      have nt := m_note (x := fnum v) hE hlg
      have hE2 := nt.2.2
      have pe := nt.2.1.pe
      have r := m_inc (pe.wp hW) (nt.2.1.prel hW hP) (inv_log (pe.inv hI)) hE2 ht hf
      have e81 : f_Mo_note M 62 (fnum v) 81 (9 * t + (mSk S t).length) = nI (mPr S (mTop S t)) := m_f81 (S := mLog S (fnum v)) hE2.1 ht
      rw [ec, if_pos g, e81]
      refine ⟨⟨mp_top ht, i81, ha.2, fun q => absurd q n0, fun _ => ⟨i81, i80, hu.2, fun q => absurd q hle, fun _ => ⟨i72, fun _ => ⟨nt.1, in9 ht hl, in9 ht hl, r.1, trivial⟩, fun q => absurd g q⟩⟩⟩, nt.2.1.trans r.2.1, r.2.2⟩
    · have ec : mCome M S t v = mSetF S t v := by unfold mCome; rw [if_neg (fun q => g q.2)]
      rw [ec, if_neg g]
      exact ⟨⟨mp_top ht, i81, ha.2, fun q => absurd q n0, fun _ => ⟨i81, i80, hu.2, fun q => absurd q hle, fun _ => ⟨i72, fun q => absurd q g, fun _ => hj.1⟩⟩⟩, hj.2⟩
theorem ix2 {c i : Nat} (h : c < 1000) (hi : i < 1000) : ((2 : Int32) * nI c + nI i).toNatClampNeg = 2 * c + i := by
  rw [show (2 : Int32) = nI 2 from rfl, nI_mul, nI_add]
  exact nI_clamp (by omega)
theorem ix2' {c : Nat} (h : c < 1000) : ((2 : Int32) * nI c).toNatClampNeg = 2 * c := by
  rw [show (2 : Int32) = nI 2 from rfl, nI_mul]
  exact nI_clamp (by omega)
theorem in2 {c i n : Nat} (h : 2 * c + i < n) (hn : n < 1000) : vp_in ((2 : Int32) * nI c + nI i) n := by
  rw [show (2 : Int32) = nI 2 from rfl, nI_mul, nI_add]
  exact vp_in_nI h (by omega)
theorem in2' {c n : Nat} (h : 2 * c < n) (hn : n < 1000) : vp_in ((2 : Int32) * nI c) n := by
  rw [show (2 : Int32) = nI 2 from rfl, nI_mul]
  exact vp_in_nI h (by omega)
/-- what a COPY reads -/
theorem m_copy {M : cs_Mem} {S : Ms} {x y : Nat} {X : Int32} (hP : PRel M) (hE : EncB S M) (hx : x < 2) (hX : X = nI x) (hy : y < 8) : M 79 (2 * y + x) = if X = 0 then mS0 S y else M 4 y := by
  rcases (show x = 0 ∨ x = 1 by omega) with rfl | rfl
  · rw [hX, if_pos (show nI 0 = 0 from rfl)]
    exact hE.2.1 y hy
  · rw [hX, if_neg (show ¬ nI 1 = 0 by decide)]
    exact (hE.2.2.1 y hy).trans (hP.2.1 y hy).2.2.1
theorem m_set0 {M : cs_Mem} {S : Ms} {t c : Nat} {v : Int32} (hE : EncT S M t) (hc : c < 8) : KM M (cs_up M 79 (upd (M 79) (2 * c) v)) ∧ EncT (mSet0 S c v) (cs_up M 79 (upd (M 79) (2 * c) v)) t := by
  have k : KM M (cs_up M 79 (upd (M 79) (2 * c) v)) := KM.up (by omega) (by omega)
  exact ⟨k, B_set0 hE.1 hc, hE.2.keep (fun _ _ _ => ⟨rfl, rfl, rfl⟩) k.pe rfl⟩
theorem m_made {M : cs_Mem} {S : Ms} {t : Nat} (hW : WP M) (hP : PRel M) (hI : InvS M S) (hE : EncT S M t) (ht : t < 3) (hp : mPr S (mTop S t) < pgL M (mTop S t)) (hf : mFl S t = 0) : pre_Mo_madeUse M 62 (nI t) ∧ KM M (f_Mo_madeUse M 62 (nI t)) ∧ EncM (mMade M S t) (f_Mo_madeUse M 62 (nI t)) := by
  have hl := sk_len hI ht
  have hT := top_lt hI ht
  have hU := wpU hW hT
  have hL := wpL hW hT
  have ha := m_act hW hP hI hE.1 ht (p := mPr S (mTop S t)) (by omega)
  have i81 : vp_in (nI (9 * t + (mSk S t).length)) (cs_ln M 81) := in9 ht hl
  have i80 : vp_in (nI (9 * t + (mSk S t).length)) (cs_ln M 80) := in9 ht hl
  have r := m_inc hW hP hI hE ht hf
  obtain ⟨a, e, h6, w0, w2, w34, wU, w8⟩ := wpA hW hT hp
  unfold pre_Mo_madeUse f_Mo_madeUse
  simp only [cs_bd_eq]
  rw [m_top hE.1 ht, ix9 ht hl, m_f81 hE.1 ht, ha.1]
  by_cases h : mPr S (mTop S t) < pgU M (mTop S t)
  · have em : mAt M (mTop S t) (mPr S (mTop S t)) = -1 := by unfold mAt; rw [if_pos h]
    have a0 := wU h
    have ec : mMade M S t = mIncP S (mTop S t) := by
      unfold mMade
      rw [if_neg ?_]
      intro q
      rw [q.2, a0] at e
      exact absurd e (by decide)
    rw [em, if_pos m1lt0, ec]
    exact ⟨⟨mp_top ht, i81, ha.2, fun _ => ⟨i81, i81, r.1, trivial⟩, fun q => absurd m1lt0 q⟩, r.2⟩
  · have em : mAt M (mTop S t) (mPr S (mTop S t)) = nI (5 * mTop S t + (mPr S (mTop S t) - pgU M (mTop S t))) := by unfold mAt; rw [if_neg h, if_pos hp]
    have n0 : ¬ nI (5 * mTop S t + (mPr S (mTop S t) - pgU M (mTop S t))) < 0 := npos (by omega)
    have i7 : ∀ r, cs_ln M r = 55 → vp_in (nI (5 * mTop S t + (mPr S (mTop S t) - pgU M (mTop S t)))) (cs_ln M r) := fun r q => by rw [q]; exact vp_in_nI (by omega) (by omega)
    have hr := m_rows hP hT (Nat.not_lt.mp h) hp
    rw [em, if_neg n0, nI_clamp (by omega), hr.1, hr.2.1]
    by_cases g : pgA M (mTop S t) (mPr S (mTop S t)) = 2
    · have a2 : a = 2 := (neq (b := 2) (by omega) (by omega)).mp (by rw [← e]; exact g)
      obtain ⟨hX, y, y1, y2⟩ := w2 a2
      have h8 : mTop S t < 8 := by
        by_cases w : mTop S t < 8
        · exact w
        · have := w8 (by omega)
          omega
      obtain ⟨x, x1, x2⟩ : ∃ x, x < 2 ∧ pgX M (mTop S t) (mPr S (mTop S t)) = nI x := by
        rcases hX with q | q
        · exact ⟨0, by omega, q⟩
        · exact ⟨1, by omega, q⟩
      have e80 : M 80 (9 * t + (mSk S t).length) = nI (mTop S t) := by
        rw [m_f80 hE.1 ht, if_neg]
        intro q
        have : mTop S t = 8 + t := by unfold mTop; rw [q]; rfl
        omega
      rw [if_pos g, hr.2.2 h8, e80, x2, y2, ix2 (by omega) (by omega), ix2' (by omega), m_copy hP hE.1 x1 x2 y1]
      have ec : mMade M S t = mIncP (mSet0 S (mTop S t) (if pgX M (mTop S t) (mPr S (mTop S t)) = 0 then mS0 S y else M 4 y)) (mTop S t) := by
        unfold mMade
        rw [if_pos ⟨hp, g⟩, y2, nI_clamp (by omega)]
      rw [ec]
      have s0 := m_set0 (v := if pgX M (mTop S t) (mPr S (mTop S t)) = 0 then mS0 S y else M 4 y) hE h8
      generalize (if pgX M (mTop S t) (mPr S (mTop S t)) = 0 then mS0 S y else M 4 y) = w at *
      have pe := s0.1.pe
      have r2 := m_inc (pe.wp hW) (s0.1.prel hW hP) (inv_set0 (pe.inv hI)) s0.2 ht hf
      have e81 : cs_up M 79 (upd (M 79) (2 * mTop S t) w) 81 (9 * t + (mSk S t).length) = nI (mPr S (mTop S t)) := m_f81 (S := mSet0 S (mTop S t) w) s0.2.1 ht
      rw [e81]
      exact ⟨⟨mp_top ht, i81, ha.2, fun q => absurd q n0, fun _ => ⟨i7 72 rfl, fun _ => ⟨i80, i7 74 rfl, i7 73 rfl, in2 (n := 16) (by omega) (by omega), in2' (n := 16) (by omega) (by omega), in9 ht hl, in9 ht hl, r2.1, trivial⟩, fun q => absurd g q⟩⟩, s0.1.trans r2.2.1, r2.2.2⟩
    · have ec : mMade M S t = mIncP S (mTop S t) := by
        unfold mMade
        rw [if_neg (fun q => g q.2)]
      rw [if_neg g, ec]
      exact ⟨⟨mp_top ht, i81, ha.2, fun q => absurd q n0, fun _ => ⟨i7 72 rfl, fun q => absurd q g, fun _ => ⟨i81, i81, r.1, trivial⟩⟩⟩, r.2⟩
