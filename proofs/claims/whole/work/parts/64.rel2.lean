/-! the calls that change, explore, outcome, count; and the start -/
theorem RelT.len {M : cs_Mem} {ts : List Nat} (h : RelT M ts) : ts.length ≤ 89 := h.sg.1.le h.1
theorem RelT.begun {M : cs_Mem} {ts : List Nat} (h : RelT M ts) : pre_Ma_hasBegun M 52 ∧ f_Ma_hasBegun M 52 = M 62 16 ∧ ((ts = [] ∧ M 62 16 = 0) ∨ (¬ ts = [] ∧ M 62 16 = 1)) := by
  have hl := h.len
  have e41 : M (52 + 1) 41 = nI ts.length := h.2.2.2.1.2.2.2.2.2.2.1
  have e16 := h.2.2.2.2.2.2.2.1
  refine ⟨⟨vp_in_nI (n := 41) (N := 43) (by omega) (by omega), trivial⟩, ?_⟩
  unfold f_Ma_hasBegun
  rw [e41]
  by_cases q : ts = []
  · rw [if_pos q] at e16
    subst q
    rw [e16, if_pos (show nI ([] : List Nat).length ≤ 0 by decide)]
    exact ⟨rfl, Or.inl ⟨rfl, rfl⟩⟩
  · rw [if_neg q] at e16
    have hp : 0 < ts.length := List.length_pos_iff.mpr q
    rw [e16, if_neg (show ¬ nI ts.length ≤ 0 from fun w => absurd ((nle (b := 0) (by omega) (by omega)).mp w) (by omega))]
    exact ⟨rfl, Or.inr ⟨q, rfl⟩⟩
theorem Chg.rel {M N : cs_Mem} (h : RelT M []) (c : Chg M N) : RelC N := by
  obtain ⟨a1, a2, a3, a4, a5, a6, a7, a8, x1, x2, x3, x4, x5, x6⟩ := h
  obtain ⟨c1, c2, c3, c4, c5, c6⟩ := c
  refine ⟨[], c1, c2, trivial, ?_, ?_, ?_, fun i hi => by simp at hi, ?_, ?_, ?_, ?_, ?_, ⟨0, ?_, by omega, by omega, Or.inl ⟨c5, rfl⟩, fun i hi => by omega⟩, fun q => ?_⟩
  · rw [c3 53 (by omega) (by omega) (by omega) (by omega)]; exact a4
  · rw [c3 54 (by omega) (by omega) (by omega) (by omega)]; exact a5
  · rw [c6 15 (by omega) (by omega)]; exact a6
  · rw [c6 16 (by omega) (by omega)]; exact a8
  · rw [c4, up_n (by omega), up_n (by omega), c6 29 (by omega) (by omega)]; exact x1
  · rw [c4, up_n (by omega), up_n (by omega), c6 30 (by omega) (by omega)]; exact x2
  · rw [ln_eq (c3 1000 (by omega) (by omega) (by omega) (by omega))]; exact x3
  · rw [c4, up_s]; exact Or.inl rfl
  · rw [c4, up_n (by omega), up_s]; rfl
  · rw [c4, up_s] at q
    exact absurd q (by decide)
theorem r_chg {M : cs_Mem} (h : RelC M) (pc : Prop) (c : Int32 × cs_Mem) (m : cs_Mem → Int32 × cs_Mem) (pm : cs_Mem → Prop) (hb : M 62 16 = 1 → pm M ∧ m M = (-1, M)) (hn : WP M → PRel M → M 62 16 = 0 → pc ∧ Two M c m pm) : (pre_Ma_hasBegun M 52 ∧ (f_Ma_hasBegun M 52 = 0 → pc ∧ True) ∧ (¬ f_Ma_hasBegun M 52 = 0 → True)) ∧ pm (if f_Ma_hasBegun M 52 = 0 then ((f_X_changed c.2 0 c.1).1, (f_X_changed c.2 0 c.1).2) else (-1, M)).2 ∧ (if f_Ma_hasBegun M 52 = 0 then ((f_X_changed c.2 0 c.1).1, (f_X_changed c.2 0 c.1).2) else (-1, M)).1 = (m (if f_Ma_hasBegun M 52 = 0 then ((f_X_changed c.2 0 c.1).1, (f_X_changed c.2 0 c.1).2) else (-1, M)).2).1 ∧ RelC (m (if f_Ma_hasBegun M 52 = 0 then ((f_X_changed c.2 0 c.1).1, (f_X_changed c.2 0 c.1).2) else (-1, M)).2).2 := by
  obtain ⟨ts, hT⟩ := h
  obtain ⟨b1, b2, b3⟩ := hT.begun
  rw [b2]
  rcases b3 with ⟨rfl, b3⟩ | ⟨b4, b3⟩
  · rw [b3, if_pos (show (0 : Int32) = 0 from rfl)]
    obtain ⟨n1, n2⟩ := hn hT.1 hT.2.1 b3
    obtain ⟨t1, t2, t3⟩ := two_x n2
    refine ⟨⟨b1, fun _ => ⟨n1, trivial⟩, fun q => absurd rfl q⟩, t1, t2, ?_⟩
    dsimp only
    rcases t3 with q | q
    · rw [q]; exact ⟨[], hT⟩
    · exact q.rel hT
  · rw [b3, if_neg (show ¬ (1 : Int32) = 0 by decide)]
    obtain ⟨n1, n2⟩ := hb b3
    dsimp only
    rw [n2]
    exact ⟨⟨b1, fun q => absurd q (by decide), fun _ => trivial⟩, n1, rfl, ts, hT⟩
theorem r_declare (M : cs_Mem) (a0 a1 a2 a3 : Int32) (h : RelC M) (h1 : a1 = 0 ∨ a1 = 1) (h2 : a2 = 0 ∨ a2 = 1) : (pre_X_declare M 0 a0 a1 a2 a3) ∧ (pre_Mo_declare (f_X_declare M 0 a0 a1 a2 a3).2 62 a0 a1 a2 a3) ∧ ((f_X_declare M 0 a0 a1 a2 a3).1 = (f_Mo_declare (f_X_declare M 0 a0 a1 a2 a3).2 62 a0 a1 a2 a3).1) ∧ (RelC ((f_Mo_declare (f_X_declare M 0 a0 a1 a2 a3).2 62 a0 a1 a2 a3).2)) := by
  have r := r_chg h (pre_Pr_addClass M 1 a0 a1 a2 a3) (f_Pr_addClass M 1 a0 a1 a2 a3) (fun N => f_Mo_declare N 62 a0 a1 a2 a3) (fun N => pre_Mo_declare N 62 a0 a1 a2 a3) (fun q => by
    unfold f_Mo_declare pre_Mo_declare f_Mo_declare_J29
    rw [q, if_neg (by decide)]
    exact ⟨⟨fun z => absurd z (by decide), fun _ => trivial⟩, rfl⟩) (fun a b c => two_dec a b c a0 a1 a2 a3 h1 h2)
  unfold pre_X_declare f_X_declare
  simp only [cs_bd_eq]
  exact r
theorem r_inherit (M : cs_Mem) (a0 a1 a2 : Int32) (h : RelC M) (h2 : a2 = 0 ∨ a2 = 1) : (pre_X_inherit M 0 a0 a1 a2) ∧ (pre_Mo_inherit (f_X_inherit M 0 a0 a1 a2).2 62 a0 a1 a2) ∧ ((f_X_inherit M 0 a0 a1 a2).1 = (f_Mo_inherit (f_X_inherit M 0 a0 a1 a2).2 62 a0 a1 a2).1) ∧ (RelC ((f_Mo_inherit (f_X_inherit M 0 a0 a1 a2).2 62 a0 a1 a2).2)) := by
  have r := r_chg h (pre_Pr_addInterface M 1 a0 a1 a2) (f_Pr_addInterface M 1 a0 a1 a2) (fun N => f_Mo_inherit N 62 a0 a1 a2) (fun N => pre_Mo_inherit N 62 a0 a1 a2) (fun q => by
    unfold f_Mo_inherit pre_Mo_inherit f_Mo_inherit_J44
    rw [q, if_neg (by decide)]
    exact ⟨⟨fun z => absurd z (by decide), fun _ => trivial⟩, rfl⟩) (fun a b c => two_inh a b c a0 a1 a2 h2)
  unfold pre_X_inherit f_X_inherit
  simp only [cs_bd_eq]
  exact r
theorem r_act (M : cs_Mem) (a0 a1 a2 a3 : Int32) (h : RelC M) : (pre_X_act M 0 a0 a1 a2 a3) ∧ (pre_Mo_act (f_X_act M 0 a0 a1 a2 a3).2 62 a0 a1 a2 a3) ∧ ((f_X_act M 0 a0 a1 a2 a3).1 = (f_Mo_act (f_X_act M 0 a0 a1 a2 a3).2 62 a0 a1 a2 a3).1) ∧ (RelC ((f_Mo_act (f_X_act M 0 a0 a1 a2 a3).2 62 a0 a1 a2 a3).2)) := by
  have r := r_chg h (pre_Pr_addAction M 1 a0 a1 a2 a3) (f_Pr_addAction M 1 a0 a1 a2 a3) (fun N => f_Mo_act N 62 a0 a1 a2 a3) (fun N => pre_Mo_act N 62 a0 a1 a2 a3) (fun q => by
    unfold f_Mo_act pre_Mo_act f_Mo_act_J37
    rw [q, if_neg (by decide)]
    exact ⟨⟨fun z => absurd z (by decide), fun _ => trivial⟩, rfl⟩) (fun a b c => two_act a b c a0 a1 a2 a3)
  unfold pre_X_act f_X_act
  simp only [cs_bd_eq]
  exact r
theorem r_plan (M : cs_Mem) (a0 a1 a2 : Int32) (h : RelC M) : (pre_X_plan M 0 a0 a1 a2) ∧ (pre_Mo_plan (f_X_plan M 0 a0 a1 a2).2 62 a0 a1 a2) ∧ ((f_X_plan M 0 a0 a1 a2).1 = (f_Mo_plan (f_X_plan M 0 a0 a1 a2).2 62 a0 a1 a2).1) ∧ (RelC ((f_Mo_plan (f_X_plan M 0 a0 a1 a2).2 62 a0 a1 a2).2)) := by
  have r := r_chg h (pre_Pr_addPlanned M 1 a0 a1 a2) (f_Pr_addPlanned M 1 a0 a1 a2) (fun N => f_Mo_plan N 62 a0 a1 a2) (fun N => pre_Mo_plan N 62 a0 a1 a2) (fun q => by
    unfold f_Mo_plan pre_Mo_plan f_Mo_plan_J43
    rw [q, if_neg (by decide)]
    exact ⟨⟨fun z => absurd z (by decide), fun _ => trivial⟩, rfl⟩) (fun a b c => two_plan a b c a0 a1 a2)
  unfold pre_X_plan f_X_plan
  simp only [cs_bd_eq]
  exact r
theorem r_reset (M : cs_Mem) (h : RelC M) : (pre_X_reset M 0) ∧ (True) ∧ ((f_X_reset M 0).1 = (f_Mo_reset (f_X_reset M 0).2 62 ).1) ∧ (RelC ((f_Mo_reset (f_X_reset M 0).2 62 ).2)) := by
  obtain ⟨ts, hT⟩ := h
  have rs := c_restart (M := M) (j := 52) (Or.inl rfl)
  have e41 : M (52 + 1) 41 = nI ts.length := hT.2.2.2.1.2.2.2.2.2.2.1
  have fr : ∀ i, i ≠ 53 → f_Ma_restart M 52 i = M i := fun i hi => fr_Ma_restart hi
  obtain ⟨R, hR⟩ : ∃ R, f_Ma_restart M 52 = R := ⟨_, rfl⟩
  rw [hR] at rs fr
  unfold pre_X_reset f_X_reset f_Mo_reset f_Ma_steps pre_Ma_steps
  simp only [cs_bd_eq]
  rw [hR, e41]
  refine ⟨⟨⟨vp_in_nI (n := 41) (N := 43) (by omega) (by omega), trivial⟩, rs.1, trivial⟩, trivial, ?_, ?_⟩
  · rw [fr 62 (by omega), hT.2.2.2.2.2.1]
  · obtain ⟨O, hO⟩ : ∃ O, cs_up (cs_up R 62 (upd (R 62) 15 0)) 62 (upd ((cs_up R 62 (upd (R 62) 15 0)) 62) 16 0) = O := ⟨_, rfl⟩
    have o62 : O 62 = upd (upd (M 62) 15 0) 16 0 := by rw [← hO, cs_up_self, cs_up_self, fr 62 (by omega)]
    have oi : ∀ i, i ≠ 62 → O i = R i := fun i hi => by rw [← hO, cs_up_ne _ _ hi, cs_up_ne _ _ hi]
    have om : ∀ i, i ≠ 62 → i ≠ 53 → O i = M i := fun i h1 h2 => by rw [oi i h1, fr i h2]
    rw [hO]
    have pe : PE M O := fun i hi => om i (by omega) (by omega)
    refine ⟨[], pe.wp hT.1, prel_of pe (fun i i1 i2 => om i (by omega) (by omega)) (by rw [o62, up_n (by omega), up_n (by omega)]) hT.1 hT.2.1, trivial, ?_, fun i hi => absurd hi (by show ¬ i < 0; omega), ?_, fun i hi => by simp at hi, ?_, hT.2.2.2.2.2.2.2.2.congr pe (om 55 (by omega) (by omega)) (om 61 (by omega) (by omega)) (om 1000 (by omega) (by omega)) (om 86 (by omega) (by omega)) (fun q hq => by rw [o62, up_n (by omega), up_n (by omega)])⟩
    · rw [oi 53 (by omega)]; exact rs.2
    · rw [o62, up_n (by omega), up_s]; rfl
    · rw [o62, up_s, if_pos rfl]
theorem wt0 {M : cs_Mem} {t : Nat} : mWt M msZ t = none := by
  unfold mWt
  split
  · split
    · rw [if_neg (fun q => absurd q.1 (by show ¬ 4 ≤ 0; omega))]
    · rfl
  · rfl
theorem r_step (M : cs_Mem) (a0 : Int32) (h : RelC M) : (pre_X_step M 0 a0) ∧ (pre_Mo_step (f_X_step M 0 a0).2 62 a0) ∧ ((f_X_step M 0 a0).1 = (f_Mo_step (f_X_step M 0 a0).2 62 a0).1) ∧ (RelC ((f_Mo_step (f_X_step M 0 a0).2 62 a0).2)) := by
  obtain ⟨ts, hT⟩ := h
  have hW := hT.1
  have hs := hT.sg
  have hI := hs.1.1
  have hlen := hT.len
  have hm1 : ¬ (0 : Int32) ≤ -1 := by decide
  -- the reference's step on a memory that keeps the reference's rows
  unfold pre_X_step f_X_step f_X_step_J18
  simp only [cs_bd_eq]
  rcases thr_out M M a0 with ⟨d1, d2, t, ht, rfl⟩ | ⟨d1, d2, -⟩
  · have d2N : ∀ N : cs_Mem, f_Mo_out N (nI t) 3 = 0 := fun N => d2
    have en := c_end (j := 52) hW hI hT.2.2.2.1 ht
    have pen := p_end (j := 52) (Or.inl rfl) hI hT.2.2.2.1 ht
    have ca := c_aw (j := 52) hW hI hT.2.2.2.1 ht
    have pa := p_aw (j := 52) (Or.inl rfl) hW hI hT.2.2.2.1 ht
    have v3 : vp_in (nI t) 3 := vp_in_nI (by omega) (by omega)
    rw [d1, en, ca, if_neg (show ¬ (1 : Int32) = 0 by decide)]
    cases he : mEnd M (rn M msZ ts) t with
    | true =>
      obtain ⟨u, hu, w1, w2, w3, w4, w5, w6, w7⟩ := hT.work
      have e84 : u 84 t = nI (mFl (rn M msZ ts) t) := by rw [w3.2 t ht, w7.eend ht, he, if_pos rfl]
      have n84 : ¬ nI (mFl (rn M msZ ts) t) < 0 := npos (by have := fl_le hI ht; omega)
      rw [if_neg (show ¬ bI true = 0 by decide)]
      dsimp only
      unfold pre_Mo_step f_Mo_step
      simp only [cs_bd_eq]
      rw [hu, d2N M, nI_clamp (by omega), e84, if_pos (show (0 : Int32) = 0 from rfl), if_neg n84]
      exact ⟨⟨fun q => absurd q (by decide), fun _ => ⟨pen, fun q => absurd q (by decide), fun _ => trivial⟩⟩, ⟨fun _ => ⟨w1, v3, fun q => absurd q n84, fun _ => trivial⟩, fun q => absurd rfl q⟩, rfl, ts, hT.km w2⟩
    | false =>
      rw [if_pos (show bI false = 0 from rfl)]
      cases hw : mWt M (rn M msZ ts) t with
      | some x =>
        obtain ⟨u, hu, w1, w2, w3, w4, w5, w6, w7⟩ := hT.work
        have hx := wt_lt hW hI ht hw
        have nx : ¬ uI (some x) = -1 := nI_m1 (by omega)
        have e84 : u 84 t = -1 := by rw [w3.2 t ht, w7.eend ht, he, if_neg (by decide)]
        have hne : ¬ ts = [] := fun q => by
          subst q
          have : mWt M msZ t = some x := hw
          rw [wt0] at this
          cases this
        have h16 : u 62 16 = 1 := by rw [w2.2 16 (by omega), hT.2.2.2.2.2.2.2.1, if_neg hne]
        obtain ⟨O, hO⟩ : ∃ O, cs_up u 62 (upd (u 62) 16 1) = O := ⟨_, rfl⟩
        have o62 : ∀ q, O 62 q = u 62 q := fun q => by
          rw [← hO, cs_up_self]
          by_cases z : q = 16
          · rw [z, up_s, h16]
          · rw [up_n z]
        have oi : ∀ i, i ≠ 62 → O i = u i := fun i hi => by rw [← hO, cs_up_ne _ _ hi]
        have peO : PE u O := fun i hi => oi i (by omega)
        have mw := m_waits (peO.wp w4) (prel_of peO (fun i i1 i2 => oi i (by omega)) (o62 0) w4 w5) (peO.inv w6) (encM_of peO (fun i hi => oi i (by omega)) (o62 26) w3) ht
        rw [peO.wt w6 ht, w7.wt hI ht, hw] at mw
        have kO : KM M O := w2.trans ⟨fun i hi => oi i (by omega), fun q _ => o62 q⟩
        rw [if_neg nx]
        dsimp only
        unfold pre_Mo_step f_Mo_step
        simp only [cs_bd_eq]
        rw [hu, d2N M, nI_clamp (by omega), e84, hO, mw.1, if_pos (show (0 : Int32) = 0 from rfl), if_pos m1lt0, if_neg (show ¬ bI (some x).isSome = 0 from (show ¬ bI true = 0 by decide))]
        exact ⟨⟨fun q => absurd q (by decide), fun _ => ⟨pen, fun _ => ⟨pa, fun q => absurd q nx, fun _ => trivial⟩, fun q => absurd rfl q⟩⟩, ⟨fun _ => ⟨w1, v3, fun _ => ⟨mw.2, fun q => absurd q (show ¬ bI true = 0 by decide), fun _ => trivial⟩, fun q => absurd m1lt0 q⟩, fun q => absurd rfl q⟩, rfl, ts, hT.km kO⟩
      | none =>
        have hab : mAb M (rn M msZ ts) t = true := by unfold mAb; rw [he, hw]; rfl
        have ad := St.adv (j := 52) (Or.inl rfl) hW hs.1 hT.2.2.2.1 ht he
        obtain ⟨A, hA⟩ : ∃ A, f_Ma_advance M 52 (nI t) = A := ⟨_, rfl⟩
        rw [hA] at ad
        obtain ⟨pad, r1, r2, r3⟩ := ad
        have hs2 := hs.step hW ht hab
        have hl2 := hs2.1.le hW
        have pA : PE M A := fun i hi => r3 i (by omega) (by omega)
        have rA := pA.run hW ts msZ 0 (sg0 hW) hT.2.2.1
        have PA : PRel A := prel_of pA (fun i i1 i2 => r3 i (by omega) (by omega)) (by rw [r3 62 (by omega) (by omega)]) hW hT.2.1
        have wk := m_work (pA.wp hW) PA rA.1 (by rw [r3 62 (by omega) (by omega)]; exact hT.2.2.2.2.2.1) (by rw [r3 76 (by omega) (by omega)]; exact hT.2.2.2.2.2.2.1)
        rw [rA.2] at wk
        obtain ⟨u, hu⟩ : ∃ u, f_Mo_work A 62 = u := ⟨_, rfl⟩
        rw [hu] at wk
        obtain ⟨w1, w2, w3⟩ := wk
        have pu : PE M u := fun i hi => (w2.pe i hi).trans (pA i hi)
        have e84 : u 84 t = -1 := by rw [w3.2 t ht, pu.eend ht, he, if_neg (by decide)]
        obtain ⟨O, hO⟩ : ∃ O, cs_up u 62 (upd (u 62) 16 1) = O := ⟨_, rfl⟩
        have o62 : O 62 = upd (u 62) 16 1 := by rw [← hO, cs_up_self]
        have oi : ∀ i, i ≠ 62 → O i = u i := fun i hi => by rw [← hO, cs_up_ne _ _ hi]
        have peO : PE u O := fun i hi => oi i (by omega)
        have w5 : PRel u := w2.prel (pA.wp hW) PA
        have mw := m_waits (peO.wp (pu.wp hW)) (prel_of peO (fun i i1 i2 => oi i (by omega)) (by rw [o62, up_n (by omega)]) (pu.wp hW) w5) (peO.inv (pu.inv hI)) (encM_of peO (fun i hi => oi i (by omega)) (by rw [o62, up_n (by omega)]) w3) ht
        rw [peO.wt (pu.inv hI) ht, pu.wt hI ht, hw] at mw
        have o15 : O 62 15 = nI ts.length := by rw [o62, up_n (by omega), w2.2 15 (by omega), r3 62 (by omega) (by omega)]; exact hT.2.2.2.2.2.1
        rw [if_pos (show uI none = -1 from rfl), hA]
        dsimp only
        unfold pre_Mo_step f_Mo_step
        simp only [cs_bd_eq]
        rw [hu, d2N A, nI_clamp (n := t) (by omega), e84, hO, mw.1, o15, nI_clamp (n := ts.length) (by omega), if_pos (show (0 : Int32) = 0 from rfl), if_pos m1lt0, if_pos (show bI (none : Option Nat).isSome = 0 from rfl)]
        refine ⟨⟨fun q => absurd q (by decide), fun _ => ⟨pen, fun _ => ⟨pa, fun _ => ⟨pad, trivial⟩, fun _ => trivial⟩, fun _ => trivial⟩⟩, ⟨fun _ => ⟨w1, v3, fun _ => ⟨mw.2, fun _ => ⟨vp_in_nI (N := 513) (by omega) (by omega), trivial⟩, fun _ => trivial⟩, fun _ => trivial⟩, fun q => absurd rfl q⟩, rfl, ?_⟩
        dsimp only
        obtain ⟨Z, hZ⟩ : ∃ Z, cs_up (cs_up O 76 (upd (O 76) ts.length (nI t))) 62 (upd ((cs_up O 76 (upd (O 76) ts.length (nI t))) 62) 15 ((cs_up O 76 (upd (O 76) ts.length (nI t))) 62 15 + 1)) = Z := ⟨_, rfl⟩
        have z62 : Z 62 = upd (upd (u 62) 16 1) 15 (nI (ts.length + 1)) := by rw [← hZ, cs_up_self, cs_up_ne _ _ (show 62 ≠ 76 by omega), o15, nI_1, o62]
        have z76 : Z 76 = upd (M 76) ts.length (nI t) := by rw [← hZ, cs_up_ne _ _ (show 76 ≠ 62 by omega), cs_up_self, oi 76 (by omega), w2.1 76 (by omega), r3 76 (by omega) (by omega)]
        have zi : ∀ i, i ≠ 62 → i ≠ 76 → Z i = u i := fun i h1 h2 => by rw [← hZ, cs_up_ne _ _ h1, cs_up_ne _ _ h2, oi i h1]
        rw [hZ]
        have pZ : PE M Z := fun i hi => by rw [zi i (by omega) (by omega)]; exact pu i hi
        have rZ := pZ.run hW (ts ++ [t]) msZ 0 (sg0 hW) ((okR_app M ts [t] msZ).mpr ⟨hT.2.2.1, ht, hab, trivial⟩)
        have erun : rn M msZ (ts ++ [t]) = mStep M (rn M msZ ts) t := rn_app M ts [t] msZ
        rw [erun] at rZ
        have z15 : ∀ q, q ≠ 15 → q ≠ 16 → q ≠ 26 → Z 62 q = M 62 q := fun q q1 q2 q3 => by rw [z62, up_n q1, up_n q2, w2.2 q q3, r3 62 (by omega) (by omega)]
        have zm : ∀ i, (i = 55 ∨ i = 61 ∨ i = 1000 ∨ i = 86) → Z i = M i := fun i hi => by rw [zi i (by omega) (by omega), w2.1 i (by omega), r3 i (by omega) (by omega)]
        refine ⟨ts ++ [t], pZ.wp hW, prel_of pZ (fun i i1 i2 => by rw [zi i (by omega) (by omega), w2.1 i (by omega), r3 i (by omega) (by omega)]) (z15 0 (by omega) (by omega) (by omega)) hW hT.2.1, rZ.1, ?_, ?_, ?_, fun i hi => ?_, ?_, hT.2.2.2.2.2.2.2.2.congr pZ (zm 55 (by omega)) (zm 61 (by omega)) (zm 1000 (by omega)) (zm 86 (by omega)) (fun q hq => z15 q (by omega) (by omega) (by omega))⟩
        · rw [rZ.2, zi 53 (by omega) (by omega), w2.1 53 (by omega), show (ts ++ [t]).length = ts.length + 1 by simp]
          exact r1
        · rw [rZ.2, zi 54 (by omega) (by omega), w2.1 54 (by omega)]
          exact r2 hT.2.2.2.2.1
        · rw [z62, up_s]
          simp
        · simp at hi
          rw [z76]
          by_cases q : i < ts.length
          · rw [up_n (by omega), hT.2.2.2.2.2.2.1 i q]
            simp [List.getElem?_append, q]
          · have : i = ts.length := by omega
            subst this
            rw [up_s]
            simp
        · rw [z62, up_n (by omega), up_s, if_neg (by simp)]
  · rw [d1, if_pos (show (0 : Int32) = 0 from rfl)]
    dsimp only
    unfold pre_Mo_step f_Mo_step
    simp only [cs_bd_eq]
    rw [d2, if_neg (show ¬ (1 : Int32) = 0 by decide)]
    exact ⟨⟨fun _ => trivial, fun q => absurd (by trivial) q⟩, ⟨fun q => absurd q (by decide), fun _ => trivial⟩, rfl, ts, hT⟩
