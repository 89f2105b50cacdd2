theorem m_leave {M : cs_Mem} {S : Ms} {t v d : Nat} {l : List Nat} (hI : InvS M S) (hE : EncT S M t) (ht : t < 3) (hs : mSk S t = d :: l) (hf : mFl S t = 0) : pre_Mo_leave M 62 (nI t) (nI v) ∧ KM M (f_Mo_leave M 62 (nI t) (nI v)) ∧ EncT (mPop S t v) (f_Mo_leave M 62 (nI t) (nI v)) t := by
  have hl := sk_len hI ht
  have hc := sk_n hI ht hs
  have e80 : M 80 (9 * t + (mSk S t).length) = nI d := by rw [m_f80 hE.1 ht, if_neg (skn hs), hc.2.2]
  have e : f_Mo_leave M 62 (nI t) (nI v) = cs_up (cs_up M 78 (upd (M 78) d (nI v))) 82 (upd (M 82) t (M 82 t - 1)) := by
    unfold f_Mo_leave
    simp only [cs_bd_eq]
    rw [m_top hE.1 ht, ix9 ht hl, e80, nI_clamp (by omega), nI_clamp (by omega), cs_up_ne _ _ (show 82 ≠ 78 by omega)]
  have k : KM M (f_Mo_leave M 62 (nI t) (nI v)) := by
    rw [e]
    exact (KM.up (by omega) (by omega)).trans (KM.up (by omega) (by omega))
  refine ⟨?_, k, ?_, ?_⟩
  · unfold pre_Mo_leave
    simp only [cs_bd_eq]
    rw [m_top hE.1 ht, ix9 ht hl, e80]
    exact ⟨mp_top ht, in9 ht hl, vp_in_nI (N := 8) hc.1 (by omega), vp_in_nI (N := 3) ht (by omega), vp_in_nI (N := 3) ht (by omega), trivial⟩
  · rw [e]
    exact B_pop hI hE.1 ht hs hf
  · refine hE.2.keep so_pop k.pe ?_
    rw [e]
    rfl
theorem m_enter {M : cs_Mem} {S : Ms} {t x : Nat} (hI : InvS M S) (hE : EncT S M t) (ht : t < 3) (hx : x < 8) (h0 : mSt S x = 0) (hf : mFl S t = 0) : pre_Mo_enter M 62 (nI t) (nI x) ∧ KM M (f_Mo_enter M 62 (nI t) (nI x)) ∧ EncM (mPush S t x) (f_Mo_enter M 62 (nI t) (nI x)) := by
  have hl := sk_len hI ht
  have hni : x ∉ mSk S t := fun q => by have := (hI.2.2.1 t x ht hx).mpr q; omega
  have hlt : (mSk S t).length + 1 ≤ 8 := by
    have := nd_len 8 (x :: mSk S t) (List.nodup_cons.mpr ⟨hni, (hI.2.1 t ht).1⟩) (fun y hy => by
      rcases List.mem_cons.mp hy with rfl | hy
      · exact hx
      · exact sk_lt hI ht y hy)
    exact this
  have e4 : (4 : Int32) + nI t = nI (4 + t) := by rw [show (4 : Int32) = nI 4 from rfl, nI_add]
  have e82 : M 82 t = nI ((mSk S t).length + 1) := (hE.1.2.2.2.1 t ht).1
  have etop : ∀ (N : cs_Mem), N 82 t = nI ((mSk S t).length + 1) + 1 → f_Mo_top N 62 (nI t) = nI (9 * t + ((mSk S t).length + 1)) := by
    intro N h
    unfold f_Mo_top
    rw [nI_clamp (by omega), h, nI_1, show (9 : Int32) = nI 9 from rfl, nI_mul, nI_add, ← Nat.add_assoc, nI_pred]
  have t1 : f_Mo_top (cs_up (cs_up M 78 (upd (M 78) x (nI (4 + t)))) 82 (upd (M 82) t (nI ((mSk S t).length + 1) + 1))) 62 (nI t) = nI (9 * t + ((mSk S t).length + 1)) := etop _ (by rw [cs_up_self]; exact up_s)
  have t2 : ∀ g, f_Mo_top (cs_up (cs_up (cs_up M 78 (upd (M 78) x (nI (4 + t)))) 82 (upd (M 82) t (nI ((mSk S t).length + 1) + 1))) 80 g) 62 (nI t) = nI (9 * t + ((mSk S t).length + 1)) := fun g => etop _ (by rw [cs_up_ne _ _ (by omega), cs_up_self]; exact up_s)
  have e : f_Mo_enter M 62 (nI t) (nI x) = cs_up (cs_up (cs_up (cs_up M 78 (upd (M 78) x (nI (4 + t)))) 82 (upd (M 82) t (M 82 t + 1))) 80 (upd (M 80) (9 * t + ((mSk S t).length + 1)) (nI x))) 81 (upd (M 81) (9 * t + ((mSk S t).length + 1)) 0) := by
    unfold f_Mo_enter
    simp only [cs_bd_eq]
    rw [nI_clamp (n := x) (by omega), nI_clamp (n := t) (by omega), e4, cs_up_ne (j := 78) _ _ (show 82 ≠ 78 by omega), e82, t1, t2, nI_clamp (by omega)]
    rw [cs_up_ne (j := 82) _ _ (show 80 ≠ 82 by omega), cs_up_ne (j := 78) _ _ (show 80 ≠ 78 by omega), cs_up_ne (j := 80) _ _ (show 81 ≠ 80 by omega), cs_up_ne (j := 82) _ _ (show 81 ≠ 82 by omega), cs_up_ne (j := 78) _ _ (show 81 ≠ 78 by omega)]
  have k : KM M (f_Mo_enter M 62 (nI t) (nI x)) := by
    rw [e]
    exact (((KM.up (by omega) (by omega)).trans (KM.up (by omega) (by omega))).trans (KM.up (by omega) (by omega))).trans (KM.up (by omega) (by omega))
  refine ⟨?_, k, EncT.close (t := t) ⟨?_, ?_⟩ ?_⟩
  · unfold pre_Mo_enter
    simp only [cs_bd_eq]
    rw [nI_clamp (n := x) (by omega), nI_clamp (n := t) (by omega), e4, cs_up_ne (j := 78) _ _ (show 82 ≠ 78 by omega), e82, t1, t2]
    exact ⟨vp_in_nI (N := 8) hx (by omega), vp_in_nI (N := 3) ht (by omega), vp_in_nI (N := 3) ht (by omega), mp_top ht, vp_in_nI (N := 27) (by omega) (by omega), mp_top ht, vp_in_nI (N := 27) (by omega) (by omega), trivial⟩
  · rw [e]
    exact B_push hI hE.1 ht hx h0 hf
  · refine hE.2.keep (so_push hx) k.pe ?_
    rw [e]
    rfl
  · unfold mEnd
    rw [show mSk (mPush S t x) t = x :: mSk S t from va_up_self _ _ _]
theorem m_useOf {M : cs_Mem} {S : Ms} {t x : Nat} (hW : WP M) (hP : PRel M) (hI : InvS M S) (hE : EncT S M t) (ht : t < 3) (hx : x < 8) (hp : mPr S (mTop S t) < pgL M (mTop S t)) (hf : mFl S t = 0) (hlg : (mLg S).length < 600) (hw : 4 ≤ mSt S x → mSt S x = 4 + t) : pre_Mo_useOf M 62 (nI t) (vI M (some x)) ∧ KM M (f_Mo_useOf M 62 (nI t) (vI M (some x))) ∧ EncM (mUse M S t x) (f_Mo_useOf M 62 (nI t) (vI M (some x))) := by
  have hs := st_le hI hx
  have c21 := m_come (v := 21) hW hP hI hE ht (by unfold fv; omega) hp hf hlg
  have c22 := m_come (v := 22) hW hP hI hE ht (by unfold fv; omega) hp hf hlg
  have c21 : pre_Mo_come M 62 (nI t) 20 ∧ KM M (f_Mo_come M 62 (nI t) 20) ∧ EncM (mCome M S t 21) (f_Mo_come M 62 (nI t) 20) := c21
  have c22 : pre_Mo_come M 62 (nI t) 21 ∧ KM M (f_Mo_come M 62 (nI t) 21) ∧ EncM (mCome M S t 22) (f_Mo_come M 62 (nI t) 21) := c22
  have md := m_made hW hP hI hE ht hp hf
  have e4 : (4 : Int32) + nI t = nI (4 + t) := by rw [show (4 : Int32) = nI 4 from rfl, nI_add]
  unfold pre_Mo_useOf f_Mo_useOf pre_Mo_useOf_J38 f_Mo_useOf_J38 mUse
  simp only [cs_bd_eq]
  by_cases hn : x < pgN M
  · have e : vI M (some x) = nI x := by show (if x < pgN M then nI x else nI (100 + x)) = _; rw [if_pos hn]
    have c1 : nI x < 100 := (nlt (b := 100) (by omega) (by omega)).mpr (by omega)
    have i78 : vp_in (nI x) (cs_ln M 78) := vp_in_nI (N := 8) hx (by omega)
    rw [e, if_pos c1, nI_clamp (by omega), hE.1.1 x hx, e4, if_pos hn]
    by_cases s0 : mSt S x = 0
    · have q1 : ¬ nI (mSt S x) = 1 := fun q => absurd ((neq (b := 1) (by omega) (by omega)).mp q) (by omega)
      have q2 : ¬ nI (mSt S x) = 2 := fun q => absurd ((neq (b := 2) (by omega) (by omega)).mp q) (by omega)
      have q4 : ¬ nI (mSt S x) = nI (4 + t) := fun q => absurd ((neq (by omega) (by omega)).mp q) (by omega)
      have en := m_enter hI hE ht hx s0 hf
      rw [if_neg q1, if_neg q4, if_neg q2, if_pos s0]
      exact ⟨⟨fun _ => ⟨i78, fun q => absurd q q1, fun _ => ⟨i78, fun q => absurd q q4, fun _ => ⟨i78, fun q => absurd q q2, fun _ => ⟨en.1, trivial⟩⟩⟩⟩, fun q => absurd c1 q⟩, en.2⟩
    · rw [if_neg s0]
      by_cases s2 : mSt S x = 2
      · have q1 : ¬ nI (mSt S x) = 1 := fun q => absurd ((neq (b := 1) (by omega) (by omega)).mp q) (by omega)
        have q2 : nI (mSt S x) = 2 := (neq (b := 2) (by omega) (by omega)).mpr s2
        have q4 : ¬ nI (mSt S x) = nI (4 + t) := fun q => absurd ((neq (by omega) (by omega)).mp q) (by omega)
        rw [if_neg q1, if_neg q4, if_pos q2, if_pos s2]
        exact ⟨⟨fun _ => ⟨i78, fun q => absurd q q1, fun _ => ⟨i78, fun q => absurd q q4, fun _ => ⟨i78, fun _ => ⟨c22.1, trivial⟩, fun q => absurd q2 q⟩⟩⟩, fun q => absurd c1 q⟩, c22.2⟩
      · rw [if_neg s2]
        by_cases s1 : mSt S x = 1
        · have q1 : nI (mSt S x) = 1 := (neq (b := 1) (by omega) (by omega)).mpr s1
          rw [if_pos q1]
          exact ⟨⟨fun _ => ⟨i78, fun _ => ⟨md.1, trivial⟩, fun q => absurd q1 q⟩, fun q => absurd c1 q⟩, md.2⟩
        · have h1 := hI.1 x hx
          have q1 : ¬ nI (mSt S x) = 1 := fun q => absurd ((neq (b := 1) (by omega) (by omega)).mp q) (by omega)
          have q4 : nI (mSt S x) = nI (4 + t) := (neq (by omega) (by omega)).mpr (hw (by omega))
          rw [if_neg q1, if_pos q4]
          exact ⟨⟨fun _ => ⟨i78, fun q => absurd q q1, fun _ => ⟨i78, fun _ => ⟨md.1, trivial⟩, fun q => absurd q4 q⟩⟩, fun q => absurd c1 q⟩, md.2⟩
  · have e : vI M (some x) = nI (100 + x) := by show (if x < pgN M then nI x else nI (100 + x)) = _; rw [if_neg hn]
    have c1 : ¬ nI (100 + x) < 100 := fun q => absurd ((nlt (b := 100) (by omega) (by omega)).mp q) (by omega)
    rw [e, if_neg c1, if_neg hn]
    exact ⟨⟨fun q => absurd q c1, fun _ => ⟨c21.1, trivial⟩⟩, c21.2⟩
theorem m_action {M : cs_Mem} {S : Ms} {t : Nat} (hW : WP M) (hP : PRel M) (hI : InvS M S) (hE : EncT S M t) (ht : t < 3) (hp : mPr S (mTop S t) < pgL M (mTop S t)) (hf : mFl S t = 0) (hlg : (mLg S).length < 600) (hus : us M (mTop S t) (mPr S (mTop S t)) = none) : pre_Mo_action M 62 (nI t) ∧ KM M (f_Mo_action M 62 (nI t)) ∧ EncM (mPerf M S t) (f_Mo_action M 62 (nI t)) := by
  have hl := sk_len hI ht
  have hT := top_lt hI ht
  have hU := wpU hW hT
  have hL := wpL hW hT
  have ha := m_act hW hP hI hE.1 ht (p := mPr S (mTop S t)) (by omega)
  have i81 : ∀ (N : cs_Mem), vp_in (nI (9 * t + (mSk S t).length)) (cs_ln N 81) := fun N => in9 ht hl
  have i80 : vp_in (nI (9 * t + (mSk S t).length)) (cs_ln M 80) := in9 ht hl
  obtain ⟨a, e, h6, w0, w2, w34, wU, w8⟩ := wpA hW hT hp
  have hA0 : ¬ pgA M (mTop S t) (mPr S (mTop S t)) = 0 := by
    intro q
    unfold us at hus
    rw [if_pos hp, if_pos q] at hus
    cases hus
  have h : ¬ mPr S (mTop S t) < pgU M (mTop S t) := by
    intro q
    rw [wU q] at e
    exact hA0 e
  have em : mAt M (mTop S t) (mPr S (mTop S t)) = nI (5 * mTop S t + (mPr S (mTop S t) - pgU M (mTop S t))) := by unfold mAt; rw [if_neg h, if_pos hp]
  have i7 : ∀ (N : cs_Mem) r, cs_ln N r = 55 → vp_in (nI (5 * mTop S t + (mPr S (mTop S t) - pgU M (mTop S t)))) (cs_ln N r) := fun N r q => by rw [q]; exact vp_in_nI (by omega) (by omega)
  have hr := m_rows hP hT (Nat.not_lt.mp h) hp
  have ne : ∀ n, n < 1000 → a ≠ n → ¬ pgA M (mTop S t) (mPr S (mTop S t)) = nI n := fun n hn q w => q ((neq (by omega) (by omega)).mp (by rw [← e]; exact w))
  unfold pre_Mo_action f_Mo_action mPerf
  simp only [cs_bd_eq]
  rw [m_top hE.1 ht, ix9 ht hl, m_f81 hE.1 ht, ha.1, em, nI_clamp (by omega), hr.1]
  have hcl : a = 1 ∨ a = 2 → mTop S t < 8 ∧ M 80 (9 * t + (mSk S t).length) = nI (mTop S t) := by
    intro q
    have h8 : mTop S t < 8 := by
      by_cases w : mTop S t < 8
      · exact w
      · have := w8 (by omega)
        omega
    refine ⟨h8, ?_⟩
    rw [m_f80 hE.1 ht, if_neg]
    intro q
    have : mTop S t = 8 + t := by unfold mTop; rw [q]; rfl
    omega
  rcases (show a = 1 ∨ a = 2 ∨ a = 3 ∨ a = 4 ∨ a = 5 ∨ a = 6 by
    have : a ≠ 0 := fun q => hA0 (by rw [e, q]; rfl)
    omega) with rfl | rfl | rfl | rfl | rfl | rfl
  · obtain ⟨h8, e80⟩ := hcl (Or.inl rfl)
    have q1 : pgA M (mTop S t) (mPr S (mTop S t)) = 1 := e
    have q2 : ¬ pgA M (mTop S t) (mPr S (mTop S t)) = 2 := ne 2 (by omega) (by omega)
    have q3 : ¬ pgA M (mTop S t) (mPr S (mTop S t)) = 3 := ne 3 (by omega) (by omega)
    have q4 : ¬ pgA M (mTop S t) (mPr S (mTop S t)) = 4 := ne 4 (by omega) (by omega)
    have q5 : ¬ pgA M (mTop S t) (mPr S (mTop S t)) = 5 := ne 5 (by omega) (by omega)
    rw [if_neg q3, if_neg q4, if_pos q1, if_pos q1, hr.2.2 h8, e80, ix2' (by omega)]
    have s0 := m_set0 (v := pgY M (mTop S t) (mPr S (mTop S t))) hE h8
    generalize pgY M (mTop S t) (mPr S (mTop S t)) = w at *
    have pe := s0.1.pe
    have r2 := m_inc (pe.wp hW) (s0.1.prel hW hP) (inv_set0 (pe.inv hI)) s0.2 ht hf
    have e81 : cs_up M 79 (upd (M 79) (2 * mTop S t) w) 81 (9 * t + (mSk S t).length) = nI (mPr S (mTop S t)) := m_f81 (S := mSet0 S (mTop S t) w) s0.2.1 ht
    have e72 : cs_up M 79 (upd (M 79) (2 * mTop S t) w) 72 (5 * mTop S t + (mPr S (mTop S t) - pgU M (mTop S t))) = pgA M (mTop S t) (mPr S (mTop S t)) := by rw [cs_up_ne _ _ (by omega)]; exact hr.1
    have key : f_Mo_action_J101 (cs_up M 79 (upd (M 79) (2 * mTop S t) w)) 62 (nI t) (nI (9 * t + (mSk S t).length)) (nI (5 * mTop S t + (mPr S (mTop S t) - pgU M (mTop S t)))) = f_Mo_finish (cs_up (cs_up M 79 (upd (M 79) (2 * mTop S t) w)) 81 (upd (cs_up M 79 (upd (M 79) (2 * mTop S t) w) 81) (9 * t + (mSk S t).length) (nI (mPr S (mTop S t)) + 1))) 62 (nI t) := by
      unfold f_Mo_action_J101 f_Mo_action_J144
      simp only [cs_bd_eq]
      rw [nI_clamp (n := 5 * mTop S t + (mPr S (mTop S t) - pgU M (mTop S t))) (by omega), e72, if_neg q2, if_neg q5, ix9 ht hl, e81]
    have pkey : pre_Mo_action_J101 (cs_up M 79 (upd (M 79) (2 * mTop S t) w)) 62 (nI t) (nI (9 * t + (mSk S t).length)) (nI (5 * mTop S t + (mPr S (mTop S t) - pgU M (mTop S t)))) := by
      unfold pre_Mo_action_J101 pre_Mo_action_J144
      simp only [cs_bd_eq]
      rw [nI_clamp (n := 5 * mTop S t + (mPr S (mTop S t) - pgU M (mTop S t))) (by omega), e72, ix9 ht hl, e81]
      exact ⟨i7 _ 72 rfl, fun q => absurd q q2, fun _ => ⟨i7 _ 72 rfl, fun q => absurd q q5, fun _ => ⟨i81 _, i81 _, r2.1, trivial⟩⟩⟩
    rw [key]
    exact ⟨⟨mp_top ht, i81 _, ha.2, i7 M 72 rfl, fun q => absurd q q3, fun _ => ⟨i7 M 72 rfl, fun q => absurd q q4, fun _ => ⟨i7 M 72 rfl, fun _ => ⟨i80, i7 M 74 rfl, in2' (n := 16) (by omega) (by omega), pkey⟩, fun q => absurd q1 q⟩⟩⟩, s0.1.trans r2.2.1, r2.2.2⟩
  · obtain ⟨h8, e80⟩ := hcl (Or.inr rfl)
    have q1 : ¬ pgA M (mTop S t) (mPr S (mTop S t)) = 1 := ne 1 (by omega) (by omega)
    have q2 : pgA M (mTop S t) (mPr S (mTop S t)) = 2 := e
    have q3 : ¬ pgA M (mTop S t) (mPr S (mTop S t)) = 3 := ne 3 (by omega) (by omega)
    have q4 : ¬ pgA M (mTop S t) (mPr S (mTop S t)) = 4 := ne 4 (by omega) (by omega)
    have q5 : ¬ pgA M (mTop S t) (mPr S (mTop S t)) = 5 := ne 5 (by omega) (by omega)
    obtain ⟨hX, y, y1, y2⟩ := w2 rfl
    obtain ⟨x, x1, x2⟩ : ∃ x, x < 2 ∧ pgX M (mTop S t) (mPr S (mTop S t)) = nI x := by
      rcases hX with q | q
      · exact ⟨0, by omega, q⟩
      · exact ⟨1, by omega, q⟩
    rw [if_neg q3, if_neg q4, if_neg q1, if_neg q1, if_pos q2]
    have ec : mMade M S t = mIncP (mSet0 S (mTop S t) (if pgX M (mTop S t) (mPr S (mTop S t)) = 0 then mS0 S y else M 4 y)) (mTop S t) := by
      unfold mMade
      rw [if_pos ⟨hp, q2⟩, y2, nI_clamp (by omega)]
    rw [ec]
    have cp := m_copy hP hE.1 x1 x2 y1
    have s0 := m_set0 (v := if pgX M (mTop S t) (mPr S (mTop S t)) = 0 then mS0 S y else M 4 y) hE h8
    generalize (if pgX M (mTop S t) (mPr S (mTop S t)) = 0 then mS0 S y else M 4 y) = w at *
    have pe := s0.1.pe
    have r2 := m_inc (pe.wp hW) (s0.1.prel hW hP) (inv_set0 (pe.inv hI)) s0.2 ht hf
    have e81 : cs_up M 79 (upd (M 79) (2 * mTop S t) w) 81 (9 * t + (mSk S t).length) = nI (mPr S (mTop S t)) := m_f81 (S := mSet0 S (mTop S t) w) s0.2.1 ht
    have e72 : cs_up M 79 (upd (M 79) (2 * mTop S t) w) 72 (5 * mTop S t + (mPr S (mTop S t) - pgU M (mTop S t))) = pgA M (mTop S t) (mPr S (mTop S t)) := by rw [cs_up_ne _ _ (by omega)]; exact hr.1
    have key : f_Mo_action_J101 M 62 (nI t) (nI (9 * t + (mSk S t).length)) (nI (5 * mTop S t + (mPr S (mTop S t) - pgU M (mTop S t)))) = f_Mo_finish (cs_up (cs_up M 79 (upd (M 79) (2 * mTop S t) w)) 81 (upd (cs_up M 79 (upd (M 79) (2 * mTop S t) w) 81) (9 * t + (mSk S t).length) (nI (mPr S (mTop S t)) + 1))) 62 (nI t) := by
      unfold f_Mo_action_J101 f_Mo_action_J144
      simp only [cs_bd_eq]
      rw [nI_clamp (n := 5 * mTop S t + (mPr S (mTop S t) - pgU M (mTop S t))) (by omega), hr.1, if_pos q2, hr.2.2 h8, hr.2.1, y2, x2, ix2 (by omega) (by omega), cp, ix9 ht hl, e80, ix2' (by omega), e72, if_neg q5, e81]
    have pkey : pre_Mo_action_J101 M 62 (nI t) (nI (9 * t + (mSk S t).length)) (nI (5 * mTop S t + (mPr S (mTop S t) - pgU M (mTop S t)))) := by
      unfold pre_Mo_action_J101 pre_Mo_action_J144
      simp only [cs_bd_eq]
      rw [nI_clamp (n := 5 * mTop S t + (mPr S (mTop S t) - pgU M (mTop S t))) (by omega), hr.1, hr.2.2 h8, hr.2.1, y2, x2, ix2 (by omega) (by omega), cp, ix9 ht hl, e80, ix2' (by omega), e72, e81]
      exact ⟨i7 M 72 rfl, fun _ => ⟨i80, i7 M 74 rfl, i7 M 73 rfl, in2 (n := 16) (by omega) (by omega), in2' (n := 16) (by omega) (by omega), i7 _ 72 rfl, fun q => absurd q q5, fun _ => ⟨i81 _, i81 _, r2.1, trivial⟩⟩, fun q => absurd q2 q⟩
    rw [key]
    exact ⟨⟨mp_top ht, i81 _, ha.2, i7 M 72 rfl, fun q => absurd q q3, fun _ => ⟨i7 M 72 rfl, fun q => absurd q q4, fun _ => ⟨i7 M 72 rfl, fun q => absurd q q1, fun _ => pkey⟩⟩⟩, s0.1.trans r2.2.1, r2.2.2⟩
  · have q1 : ¬ pgA M (mTop S t) (mPr S (mTop S t)) = 1 := ne 1 (by omega) (by omega)
    have q2 : ¬ pgA M (mTop S t) (mPr S (mTop S t)) = 2 := ne 2 (by omega) (by omega)
    have q3 : pgA M (mTop S t) (mPr S (mTop S t)) = 3 := e
    obtain ⟨x, x1, x2⟩ := w34 (Or.inl rfl)
    have cm := m_come (v := 1 + x) hW hP hI hE ht (by unfold fv; omega) hp hf hlg
    rw [Nat.add_sub_cancel_left] at cm
    unfold f_Mo_action_J38 pre_Mo_action_J38
    simp only [cs_bd_eq]
    rw [nI_clamp (n := 5 * mTop S t + (mPr S (mTop S t) - pgU M (mTop S t))) (by omega), hr.1, hr.2.1, if_pos q3, if_neg q1, if_neg q2, if_pos q3, x2, nI_clamp (n := x) (by omega), if_pos q3]
    exact ⟨⟨mp_top ht, i81 _, ha.2, i7 M 72 rfl, fun _ => ⟨i7 M 72 rfl, fun _ => ⟨i7 M 73 rfl, cm.1, trivial⟩, fun q => absurd q3 q⟩, fun q => absurd q3 q⟩, cm.2⟩
  · have q1 : ¬ pgA M (mTop S t) (mPr S (mTop S t)) = 1 := ne 1 (by omega) (by omega)
    have q2 : ¬ pgA M (mTop S t) (mPr S (mTop S t)) = 2 := ne 2 (by omega) (by omega)
    have q3 : ¬ pgA M (mTop S t) (mPr S (mTop S t)) = 3 := ne 3 (by omega) (by omega)
    have q4 : pgA M (mTop S t) (mPr S (mTop S t)) = 4 := e
    obtain ⟨x, x1, x2⟩ := w34 (Or.inr rfl)
    have cm := m_come (v := 11 + x) hW hP hI hE ht (by unfold fv; omega) hp hf hlg
    rw [show 11 + x - 1 = 10 + x by omega] at cm
    have e10 : (10 : Int32) + nI x = nI (10 + x) := by rw [show (10 : Int32) = nI 10 from rfl, nI_add]
    unfold f_Mo_action_J38 pre_Mo_action_J38
    simp only [cs_bd_eq]
    rw [nI_clamp (n := 5 * mTop S t + (mPr S (mTop S t) - pgU M (mTop S t))) (by omega), hr.1, hr.2.1, if_neg q3, if_pos q4, if_neg q1, if_neg q2, if_neg q3, if_pos q4, x2, nI_clamp (n := x) (by omega), e10, if_neg q3]
    exact ⟨⟨mp_top ht, i81 _, ha.2, i7 M 72 rfl, fun q => absurd q q3, fun _ => ⟨i7 M 72 rfl, fun _ => ⟨i7 M 72 rfl, fun q => absurd q q3, fun _ => ⟨i7 M 73 rfl, cm.1, trivial⟩⟩, fun q => absurd q4 q⟩⟩, cm.2⟩
  · have q1 : ¬ pgA M (mTop S t) (mPr S (mTop S t)) = 1 := ne 1 (by omega) (by omega)
    have q2 : ¬ pgA M (mTop S t) (mPr S (mTop S t)) = 2 := ne 2 (by omega) (by omega)
    have q3 : ¬ pgA M (mTop S t) (mPr S (mTop S t)) = 3 := ne 3 (by omega) (by omega)
    have q4 : ¬ pgA M (mTop S t) (mPr S (mTop S t)) = 4 := ne 4 (by omega) (by omega)
    have q5 : pgA M (mTop S t) (mPr S (mTop S t)) = 5 := e
    have nt := m_note (x := pgX M (mTop S t) (mPr S (mTop S t))) hE hlg
    have hE2 := nt.2.2
    have pe := nt.2.1.pe
    have r := m_inc (pe.wp hW) (nt.2.1.prel hW hP) (inv_log (pe.inv hI)) hE2 ht hf
    have e81 : f_Mo_note M 62 (pgX M (mTop S t) (mPr S (mTop S t))) 81 (9 * t + (mSk S t).length) = nI (mPr S (mTop S t)) := m_f81 (S := mLog S (pgX M (mTop S t) (mPr S (mTop S t)))) hE2.1 ht
    unfold f_Mo_action_J101 pre_Mo_action_J101 f_Mo_action_J144 pre_Mo_action_J144
    simp only [cs_bd_eq]
    rw [nI_clamp (n := 5 * mTop S t + (mPr S (mTop S t) - pgU M (mTop S t))) (by omega), hr.1, hr.2.1, if_neg q3, if_neg q4, if_neg q1, if_neg q2, if_pos q5, ix9 ht hl, e81, if_neg q1, if_neg q2, if_neg q3, if_neg q4, if_pos q5]
    exact ⟨⟨mp_top ht, i81 _, ha.2, i7 M 72 rfl, fun q => absurd q q3, fun _ => ⟨i7 M 72 rfl, fun q => absurd q q4, fun _ => ⟨i7 M 72 rfl, fun q => absurd q q1, fun _ => ⟨i7 M 72 rfl, fun q => absurd q q2, fun _ => ⟨i7 M 72 rfl, fun _ => ⟨i7 M 73 rfl, nt.1, in9 ht hl, in9 ht hl, r.1, trivial⟩, fun q => absurd q5 q⟩⟩⟩⟩⟩, nt.2.1.trans r.2.1, r.2.2⟩
  · have q1 : ¬ pgA M (mTop S t) (mPr S (mTop S t)) = 1 := ne 1 (by omega) (by omega)
    have q2 : ¬ pgA M (mTop S t) (mPr S (mTop S t)) = 2 := ne 2 (by omega) (by omega)
    have q3 : ¬ pgA M (mTop S t) (mPr S (mTop S t)) = 3 := ne 3 (by omega) (by omega)
    have q4 : ¬ pgA M (mTop S t) (mPr S (mTop S t)) = 4 := ne 4 (by omega) (by omega)
    have q5 : ¬ pgA M (mTop S t) (mPr S (mTop S t)) = 5 := ne 5 (by omega) (by omega)
    have r := m_inc hW hP hI hE ht hf
    unfold f_Mo_action_J101 pre_Mo_action_J101 f_Mo_action_J144 pre_Mo_action_J144
    simp only [cs_bd_eq]
    rw [nI_clamp (n := 5 * mTop S t + (mPr S (mTop S t) - pgU M (mTop S t))) (by omega), hr.1, hr.2.1, if_neg q3, if_neg q4, if_neg q1, if_neg q2, if_neg q5, ix9 ht hl, m_f81 hE.1 ht, if_neg q1, if_neg q2, if_neg q3, if_neg q4, if_neg q5]
    exact ⟨⟨mp_top ht, i81 _, ha.2, i7 M 72 rfl, fun q => absurd q q3, fun _ => ⟨i7 M 72 rfl, fun q => absurd q q4, fun _ => ⟨i7 M 72 rfl, fun q => absurd q q1, fun _ => ⟨i7 M 72 rfl, fun q => absurd q q2, fun _ => ⟨i7 M 72 rfl, fun q => absurd q q5, fun _ => ⟨i81 _, i81 _, r.1, trivial⟩⟩⟩⟩⟩⟩, r.2⟩
