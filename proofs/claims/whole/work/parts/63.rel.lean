/-! what holds between both objects' memories, and the looking calls -/
def pm (M : cs_Mem) : cs_Mem := fun i => if i < 52 then M i else fun _ => 0
theorem pm_pe (M : cs_Mem) : PE (pm M) M := fun i hi => by unfold pm; rw [if_pos hi]
theorem pm_eq {M N : cs_Mem} (h : PE M N) : pm N = pm M := by
  funext i
  unfold pm
  by_cases q : i < 52
  · rw [if_pos q, if_pos q, h i q]
  · rw [if_neg q, if_neg q]
def KN (M : cs_Mem) (res : Option (List Nat × Nat × Nat)) : Prop := match res with
  | none => M 55 9 = -2 ∧ M 55 4 = 0 ∧ M 55 5 = 0 ∧ M 55 6 = 0
  | some (l, o, s) => M 55 9 = nI l.length ∧ M 55 4 = nI l.length ∧ M 55 5 = nI o ∧ M 55 6 = nI s ∧ FE l (M 61) ∧ l.length ≤ cs_ln M 61 ∧ l.length ≤ 3000
theorem KN.congr {M N : cs_Mem} (e55 : N 55 = M 55) (e61 : N 61 = M 61) (e1000 : N 1000 = M 1000) : ∀ res, KN M res → KN N res
  | none, h => by
    unfold KN at h ⊢
    rw [e55]
    exact h
  | some (l, o, s), h => by
    unfold KN at h ⊢
    rw [e55, e61, ln_eq e1000]
    exact h
def XP (M : cs_Mem) : Prop := M 55 5 = M 62 29 ∧ M 55 6 = M 62 30 ∧ Pw (cs_ln M 61) ∧ (M 55 8 = 0 ∨ M 55 8 = 1) ∧ (∃ n, M 55 4 = nI n ∧ n ≤ 3000 ∧ n ≤ cs_ln M 61 ∧ ((M 62 31 = 0 ∧ n = 0) ∨ (M 62 31 = 1 ∧ M 62 28 = nI n)) ∧ ∀ i, i < n → M 61 i = M 86 i) ∧ (M 55 8 = 1 → KN M (exR (pm M)))
theorem XP.congr {M N : cs_Mem} (h : XP M) (pe : PE M N) (e55 : N 55 = M 55) (e61 : N 61 = M 61) (e1000 : N 1000 = M 1000) (e86 : N 86 = M 86) (e62 : ∀ k, 27 < k → N 62 k = M 62 k) : XP N := by
  obtain ⟨h1, h2, h3, h4, h5, h6⟩ := h
  unfold XP
  rw [e55, e61, ln_eq e1000, e86, e62 28 (by omega), e62 29 (by omega), e62 30 (by omega), e62 31 (by omega), pm_eq pe]
  exact ⟨h1, h2, h3, h4, h5, fun q => KN.congr e55 e61 e1000 _ (h6 q)⟩
def RelT (M : cs_Mem) (ts : List Nat) : Prop := WP M ∧ PRel M ∧ okR M msZ ts ∧ EncC (rn M msZ ts) ts.length (M 53) ∧ EncL (rn M msZ ts) (M 54) ∧ M 62 15 = nI ts.length ∧ (∀ i, i < ts.length → M 76 i = nI (ts.getD i 0)) ∧ M 62 16 = (if ts = [] then 0 else 1) ∧ XP M
def RelC (M : cs_Mem) : Prop := ∃ ts, RelT M ts
theorem RelT.of {M N : cs_Mem} {ts : List Nat} (h : RelT M ts) (pe : PE M N) (hP : PRel N) (h53 : N 53 = M 53) (h54 : N 54 = M 54) (h15 : N 62 15 = M 62 15) (h16 : N 62 16 = M 62 16) (h76 : N 76 = M 76) (hx : XP N) : RelT N ts := by
  obtain ⟨a1, a2, a3, a4, a5, a6, a7, a8, a9⟩ := h
  have r := pe.run a1 ts msZ 0 (sg0 a1) a3
  refine ⟨pe.wp a1, hP, r.1, ?_, ?_, ?_, ?_, ?_, hx⟩
  · rw [r.2, h53]; exact a4
  · rw [r.2, h54]; exact a5
  · rw [h15]; exact a6
  · rw [h76]; exact a7
  · rw [h16]; exact a8
theorem RelT.km {M N : cs_Mem} {ts : List Nat} (h : RelT M ts) (k : KM M N) : RelT N ts :=
  h.of k.pe (k.prel h.1 h.2.1) (k.1 53 (by omega)) (k.1 54 (by omega)) (k.2 15 (by omega)) (k.2 16 (by omega)) (k.1 76 (by omega)) (h.2.2.2.2.2.2.2.2.congr k.pe (k.1 55 (by omega)) (k.1 61 (by omega)) (k.1 1000 (by omega)) (k.1 86 (by omega)) (fun q hq => k.2 q (by omega)))
theorem RelT.sg {M : cs_Mem} {ts : List Nat} (h : RelT M ts) : Sg M (rn M msZ ts) ts.length := by
  have := Sg.run h.1 ts msZ 0 (sg0 h.1) h.2.2.1
  rw [Nat.zero_add] at this
  exact this
/-- the reference's work, in the relation -/
theorem RelT.work {M : cs_Mem} {ts : List Nat} (h : RelT M ts) : ∃ u, f_Mo_work M 62 = u ∧ pre_Mo_work M 62 ∧ KM M u ∧ EncM (rn M msZ ts) u ∧ WP u ∧ PRel u ∧ InvS u (rn M msZ ts) ∧ PE M u := by
  obtain ⟨a1, a2, a3, a4, a5, a6, a7, a8, a9⟩ := h
  have w := m_work a1 a2 a3 a6 a7
  have hI := (RelT.sg ⟨a1, a2, a3, a4, a5, a6, a7, a8, a9⟩).1.1
  generalize f_Mo_work M 62 = u at w
  exact ⟨u, rfl, w.1, w.2.1, w.2.2, w.2.1.pe.wp a1, w.2.1.prel a1 a2, w.2.1.pe.inv hI, w.2.1.pe⟩
theorem r_state (k : Nat) (M : cs_Mem) (a0 : Int32) (h : RelC M) : (pre_X_state M 0 a0) ∧ (pre_Mo_state M 62 a0) ∧ (f_X_state M 0 a0 = (f_Mo_state M 62 a0).1) ∧ (RelC ((f_Mo_state M 62 a0).2)) := by
  obtain ⟨ts, hT⟩ := h
  have hW := hT.1
  have hn8 := (wpN hW).2
  have e0 : M 62 0 = nI (pgN M) := hT.2.1.1.trans (wpN hW).1
  unfold pre_X_state f_X_state pre_Mo_state f_Mo_state
  simp only [cs_bd_eq]
  rw [e0]
  rcases decl_out M hW a0 with ⟨d1, d2, n, hn, rfl⟩ | ⟨d1, d2, -⟩
  · obtain ⟨u, hu, w1, w2, w3, -⟩ := hT.work
    rw [hu, d1, d2, if_neg (show ¬ (1 : Int32) = 0 by decide), if_pos (show (0 : Int32) = 0 from rfl), c_stateOf (j := 52) hT.2.2.2.1 (show n < 8 by omega), nI_clamp (by omega)]
    refine ⟨⟨fun q => absurd q (by decide), fun _ => ⟨p_stateOf (Or.inl rfl) (by omega), trivial⟩⟩, ⟨fun _ => ⟨w1, vp_in_nI (N := 8) (by omega) (by omega), trivial⟩, fun q => absurd rfl q⟩, ?_, ts, hT.km w2⟩
    dsimp only
    rw [w3.1.1 n (by omega)]
  · rw [d1, d2, if_pos (show (0 : Int32) = 0 from rfl), if_neg (show ¬ (1 : Int32) = 0 by decide)]
    exact ⟨⟨fun _ => trivial, fun q => absurd rfl q⟩, ⟨fun q => absurd q (by decide), fun _ => trivial⟩, rfl, ts, hT⟩
theorem r_statics (k : Nat) (M : cs_Mem) (a0 a1 : Int32) (h : RelC M) : (pre_X_statics M 0 a0 a1) ∧ (pre_Mo_statics M 62 a0 a1) ∧ (f_X_statics M 0 a0 a1 = (f_Mo_statics M 62 a0 a1).1) ∧ (RelC ((f_Mo_statics M 62 a0 a1).2)) := by
  obtain ⟨ts, hT⟩ := h
  have hW := hT.1
  have hn8 := (wpN hW).2
  have e0 : M 62 0 = nI (pgN M) := hT.2.1.1.trans (wpN hW).1
  unfold pre_X_statics f_X_statics pre_Mo_statics f_Mo_statics f_Mo_statics_J19 pre_Ma_staticOf f_Ma_staticOf f_Pr_secondStatic pre_Pr_secondStatic
  simp only [cs_bd_eq]
  rw [e0]
  rcases decl_out M hW a0 with ⟨d1, d2, n, hn, rfl⟩ | ⟨d1, d2, -⟩
  · rw [d1, d2, if_neg (show ¬ (1 : Int32) = 0 by decide), if_pos (show (0 : Int32) = 0 from rfl), nI_clamp (n := n) (by omega), ix8 (by omega)]
    have v8 : vp_in (nI n) 8 := vp_in_nI (by omega) (by omega)
    have v43 : vp_in ((8 : Int32) + nI n) 43 := inK 8 n 43 (by omega) (by omega)
    rcases below_out M M a1 2 (by omega) with ⟨-, k2, m, hm, rfl⟩ | ⟨-, k2, k3⟩
    · obtain ⟨u, hu, w1, w2, w3, -⟩ := hT.work
      have k2 : f_Mo_out M (nI m) 2 = 0 := k2
      have n1 : ¬ nI m < 0 := npos (by omega)
      have n2 : ¬ (2 : Int32) ≤ nI m := fun q => absurd ((nle (a := 2) (by omega) (by omega)).mp q) (by omega)
      have em : (2 : Int32) * nI n + nI m = nI (2 * n + m) := by rw [show (2 : Int32) = nI 2 from rfl, nI_mul, nI_add]
      rw [hu, k2, if_neg n1, if_neg n2, if_pos (show (0 : Int32) = 0 from rfl), em, nI_clamp (by omega)]
      refine ⟨⟨fun q => absurd q (by decide), fun _ => ⟨fun q => absurd q n1, fun _ => ⟨fun q => absurd q n2, fun _ => ⟨⟨fun _ => ⟨v43, trivial⟩, fun _ => ⟨⟨v8, trivial⟩, trivial⟩⟩, trivial⟩⟩⟩⟩, ⟨fun _ => ⟨fun _ => ⟨w1, vp_in_nI (N := 16) (by omega) (by omega), trivial⟩, fun q => absurd rfl q⟩, fun q => absurd rfl q⟩, ?_, ts, hT.km w2⟩
      dsimp only
      by_cases z : m = 0
      · rw [z, if_pos (show nI 0 = 0 from rfl), show 2 * n + 0 = 2 * n from rfl, w3.1.2.1 n (by omega)]
        exact congrArg Int32.toInt64 (hT.2.2.2.1.2.1 n (by omega))
      · have : m = 1 := by omega
        subst this
        rw [if_neg (show ¬ nI 1 = 0 by decide), w3.1.2.2.1 n (by omega), w2.1 64 (by omega)]
        exact congrArg Int32.toInt64 (hT.2.1.2.1 n (by omega)).2.2.1.symm
    · have k2 : f_Mo_out M a1 2 = 1 := k2
      rw [k2, if_neg (show ¬ (1 : Int32) = 0 by decide)]
      refine ⟨⟨fun q => absurd q (by decide), fun _ => ⟨fun _ => trivial, fun _ => ⟨fun _ => trivial, fun _ => ⟨⟨fun _ => ⟨v43, trivial⟩, fun _ => ⟨⟨v8, trivial⟩, trivial⟩⟩, trivial⟩⟩⟩⟩, ⟨fun _ => ⟨fun q => absurd q (by decide), fun _ => trivial⟩, fun q => absurd rfl q⟩, ?_, ts, hT⟩
      by_cases q : a1 < 0
      · rw [if_pos q]
      · rw [if_neg q]
        obtain ⟨m, hm, rfl⟩ := exn q
        rw [if_pos (show (2 : Int32) ≤ nI m from (nI_leI (a := 2) (by omega) hm).mpr (by
          by_cases w : m < 2
          · exact absurd ⟨m, w, rfl⟩ k3
          · omega))]
  · rw [d1, d2, if_pos (show (0 : Int32) = 0 from rfl), if_neg (show ¬ (1 : Int32) = 0 by decide)]
    exact ⟨⟨fun _ => trivial, fun q => absurd rfl q⟩, ⟨fun q => absurd q (by decide), fun _ => trivial⟩, rfl, ts, hT⟩
theorem c_res {M : cs_Mem} {S : Ms} {k t : Nat} (hW : WP M) (hI : InvS M S) (hE : EncC S k (M 53)) (ht : t < 3) : f_Ma_resultOf M 52 (nI t) = mRes M S t ∧ pre_Ma_resultOf M 52 (nI t) := by
  have en := c_end (j := 52) hW hI hE ht
  have pe := p_end (j := 52) (Or.inl rfl) hI hE ht
  have nx : f_Ma_nextAble M 52 0 = nI (mNx M S 0) := c_nx (j := 52) (t := 0) hW hI hE (by omega)
  have pn : pre_Ma_nextAble M 52 0 := p_nx (j := 52) (t := 0) (Or.inl rfl) hW hI hE (by omega)
  have ls := c_last (j := 52) hW hI hE ht
  have pl := p_last (j := 52) (Or.inl rfl) hI hE ht
  have hn : mNx M S 0 ≤ 3 := by
    rcases nx_cases (Q := M) (S := S) (y := 0) with q | q <;> omega
  unfold f_Ma_resultOf pre_Ma_resultOf mRes
  simp only [cs_bd_eq]
  rw [en, nx, ls]
  refine ⟨?_, pe, fun _ => ⟨pn, fun _ => ⟨pl, trivial⟩, fun _ => trivial⟩, fun _ => ⟨pl, trivial⟩⟩
  cases he : mEnd M S t with
  | true =>
    rw [if_neg (show ¬ bI true = 0 by decide), if_pos rfl, if_pos rfl]
  | false =>
    rw [if_pos (show bI false = 0 from rfl), if_neg (show ¬ false = true by decide), if_neg (show ¬ false = true by decide)]
    by_cases q : mNx M S 0 = 3
    · rw [if_pos (show nI (mNx M S 0) = 3 by rw [q]; rfl), if_pos q]
    · rw [if_neg (show ¬ nI (mNx M S 0) = 3 from fun w => q ((neq (b := 3) (by omega) (by omega)).mp w)), if_neg q]
theorem PE.res {M N : cs_Mem} (h : PE M N) {S : Ms} {t : Nat} (hI : InvS M S) (ht : t < 3) : mRes N S t = mRes M S t := by
  unfold mRes
  rw [h.eend ht, h.nx hI]
theorem r_result (k : Nat) (M : cs_Mem) (a0 : Int32) (h : RelC M) : (pre_X_result M 0 a0) ∧ (pre_Mo_result M 62 a0) ∧ (f_X_result M 0 a0 = (f_Mo_result M 62 a0).1) ∧ (RelC ((f_Mo_result M 62 a0).2)) := by
  obtain ⟨ts, hT⟩ := h
  have hW := hT.1
  have hI := hT.sg.1.1
  unfold pre_X_result f_X_result pre_Mo_result f_Mo_result
  simp only [cs_bd_eq]
  rcases thr_out M M a0 with ⟨d1, d2, t, ht, rfl⟩ | ⟨d1, d2, -⟩
  · obtain ⟨u, hu, w1, w2, w3, w4, w5, w6, w7⟩ := hT.work
    have cr := c_res hW hI hT.2.2.2.1 ht
    have mr := m_res w4 w5 w6 w3 ht
    rw [hu, d1, d2, if_neg (show ¬ (1 : Int32) = 0 by decide), if_pos (show (0 : Int32) = 0 from rfl), cr.1]
    refine ⟨⟨fun q => absurd q (by decide), fun _ => ⟨cr.2, trivial⟩⟩, ⟨fun _ => ⟨w1, mr.2, trivial⟩, fun q => absurd rfl q⟩, ?_, ts, hT.km w2⟩
    dsimp only
    rw [mr.1, w7.res hI ht]
  · rw [d1, d2, if_pos (show (0 : Int32) = 0 from rfl), if_neg (show ¬ (1 : Int32) = 0 by decide)]
    exact ⟨⟨fun _ => trivial, fun q => absurd rfl q⟩, ⟨fun q => absurd q (by decide), fun _ => trivial⟩, rfl, ts, hT⟩
theorem r_inside (k : Nat) (M : cs_Mem) (a0 : Int32) (h : RelC M) : (pre_X_inside M 0 a0) ∧ (pre_Mo_inside M 62 a0) ∧ (f_X_inside M 0 a0 = (f_Mo_inside M 62 a0).1) ∧ (RelC ((f_Mo_inside M 62 a0).2)) := by
  obtain ⟨ts, hT⟩ := h
  have hW := hT.1
  have hI := hT.sg.1.1
  unfold pre_X_inside f_X_inside pre_Mo_inside f_Mo_inside
  simp only [cs_bd_eq]
  rcases thr_out M M a0 with ⟨d1, d2, t, ht, rfl⟩ | ⟨d1, d2, -⟩
  · obtain ⟨u, hu, w1, w2, w3, w4, w5, w6, w7⟩ := hT.work
    have ci := c_isIn (j := 52) hI hT.2.2.2.1 ht
    have pt : pre_Ma_topFrame M 52 (nI t) := p_top (Or.inl rfl) ht
    have ct := c_top (j := 52) hT.2.2.2.1 ht
    have mt := m_top w3.1 ht
    have hlen : (mSk (rn M msZ ts) t).length ≤ 8 := nd_len 8 _ (hI.2.1 t ht).1 (fun x hx => ((hI.2.1 t ht).2 x hx).1)
    rw [hu, d1, d2, if_neg (show ¬ (1 : Int32) = 0 by decide), if_pos (show (0 : Int32) = 0 from rfl), ci, ct, mt, nI_clamp (by omega)]
    refine ⟨⟨fun q => absurd q (by decide), fun _ => ⟨pt, fun _ => trivial, fun _ => ⟨pt, trivial⟩⟩⟩, ⟨fun _ => ⟨w1, ⟨vp_in_nI (N := 3) ht (by omega), trivial⟩, vp_in_nI (N := 27) (by omega) (by omega), trivial⟩, fun q => absurd rfl q⟩, ?_, ts, hT.km w2⟩
    dsimp only
    cases hs : mSk (rn M msZ ts) t with
    | nil =>
      rw [if_pos rfl, if_pos (show (0 : Int32) = 0 from rfl)]
      exact (w3.1.2.2.2.1 t ht).2.1.symm
    | cons c l =>
      rw [if_neg (show ¬ c :: l = [] by simp), if_neg (show ¬ (1 : Int32) = 0 by decide)]
      have := (w3.1.2.2.2.2.1 t ht c [] l hs).1
      rw [show (c :: l).length = l.length + 1 from rfl, this]
      unfold mTop
      rw [hs]
      rfl
  · rw [d1, d2, if_pos (show (0 : Int32) = 0 from rfl), if_neg (show ¬ (1 : Int32) = 0 by decide)]
    exact ⟨⟨fun _ => trivial, fun q => absurd rfl q⟩, ⟨fun q => absurd q (by decide), fun _ => trivial⟩, rfl, ts, hT⟩
theorem wt_us {M : cs_Mem} {S : Ms} {t x : Nat} (h : mWt M S t = some x) : us M (mTop S t) (mPr S (mTop S t)) = some x ∧ 4 ≤ mSt S x := by
  unfold mWt at h
  by_cases hf : mFl S t = 0
  · rw [if_pos hf] at h
    cases hu : us M (mTop S t) (mPr S (mTop S t)) with
    | none => rw [hu] at h; cases h
    | some y =>
      rw [hu] at h
      dsimp only at h
      by_cases q : 4 ≤ mSt S y ∧ ¬ mSt S y = 4 + t
      · rw [if_pos q] at h
        injection h with h
        subst h
        exact ⟨rfl, q.1⟩
      · rw [if_neg q] at h
        cases h
  · rw [if_neg hf] at h
    cases h
theorem r_waitsFor (k : Nat) (M : cs_Mem) (a0 : Int32) (h : RelC M) : (pre_X_waitsFor M 0 a0) ∧ (pre_Mo_waitsFor M 62 a0) ∧ (f_X_waitsFor M 0 a0 = (f_Mo_waitsFor M 62 a0).1) ∧ (RelC ((f_Mo_waitsFor M 62 a0).2)) := by
  obtain ⟨ts, hT⟩ := h
  have hW := hT.1
  have hI := hT.sg.1.1
  unfold pre_X_waitsFor f_X_waitsFor pre_Mo_waitsFor f_Mo_waitsFor
  simp only [cs_bd_eq]
  rcases thr_out M M a0 with ⟨d1, d2, t, ht, rfl⟩ | ⟨d1, d2, -⟩
  · obtain ⟨u, hu, w1, w2, w3, w4, w5, w6, w7⟩ := hT.work
    have ca := c_aw (j := 52) hW hI hT.2.2.2.1 ht
    have pa := p_aw (j := 52) (Or.inl rfl) hW hI hT.2.2.2.1 ht
    have mw := m_waits w4 w5 w6 w3 ht
    have mu := m_used w4 w5 w6 w3.1 ht
    rw [w7.wt hI ht] at mw
    rw [hu, d1, d2, if_neg (show ¬ (1 : Int32) = 0 by decide), if_pos (show (0 : Int32) = 0 from rfl), ca, mw.1, mu.1]
    refine ⟨⟨fun q => absurd q (by decide), fun _ => ⟨pa, trivial⟩⟩, ⟨fun _ => ⟨w1, mw.2, fun _ => trivial, fun _ => ⟨mu.2, trivial⟩⟩, fun q => absurd rfl q⟩, ?_⟩
    cases hw : mWt M (rn M msZ ts) t with
    | none =>
      rw [if_pos (show uI none = -1 from rfl), if_pos (show bI (none : Option Nat).isSome = 0 from rfl)]
      exact ⟨rfl, ts, hT.km w2⟩
    | some x =>
      have hx := wt_lt hW hI ht hw
      have hv := wt_us hw
      have hxn := st_n hI hx hv.2
      rw [if_neg (show ¬ uI (some x) = -1 from nI_m1 (by omega)), if_neg (show ¬ bI (some x).isSome = 0 from (show ¬ bI true = 0 by decide))]
      refine ⟨?_, ts, hT.km w2⟩
      dsimp only
      rw [w7.uso (top_lt hI ht), hv.1]
      unfold vI uI
      dsimp only
      rw [w7.N, if_pos hxn]
  · rw [d1, d2, if_pos (show (0 : Int32) = 0 from rfl), if_neg (show ¬ (1 : Int32) = 0 by decide)]
    exact ⟨⟨fun _ => trivial, fun q => absurd rfl q⟩, ⟨fun q => absurd q (by decide), fun _ => trivial⟩, rfl, ts, hT⟩
theorem r_logged (k : Nat) (M : cs_Mem) (a0 : Int32) (h : RelC M) : (pre_X_logged M 0 a0) ∧ (pre_Mo_logged M 62 a0) ∧ (f_X_logged M 0 a0 = (f_Mo_logged M 62 a0).1) ∧ (RelC ((f_Mo_logged M 62 a0).2)) := by
  obtain ⟨ts, hT⟩ := h
  have hW := hT.1
  have hs := hT.sg
  have hlg := hs.1.lg hW
  obtain ⟨u, hu, w1, w2, w3, w4, w5, w6, w7⟩ := hT.work
  have e42 : M (52 + 1) 42 = nI (mLg (rn M msZ ts)).length := hT.2.2.2.1.2.2.2.2.2.2.2
  have v42 : vp_in 42 (cs_ln M (52 + 1)) := vp_in_nI (n := 42) (N := 43) (by omega) (by omega)
  unfold pre_X_logged f_X_logged pre_Mo_logged f_Mo_logged pre_Ma_logSize f_Ma_logSize pre_Ma_logEntry f_Ma_logEntry
  simp only [cs_bd_eq]
  rw [hu, e42, w3.1.2.2.2.2.2.2.1]
  rcases below_out M u a0 (mLg (rn M msZ ts)).length (by omega) with ⟨-, d2, n, hn, rfl⟩ | ⟨-, d2, d3⟩
  · have n1 : ¬ nI n < 0 := npos (by omega)
    have n2 : ¬ nI (mLg (rn M msZ ts)).length ≤ nI n := fun q => absurd ((nle (by omega) (by omega)).mp q) (by omega)
    rw [d2, if_neg n1, if_neg n2, if_pos (show (0 : Int32) = 0 from rfl), nI_clamp (by omega)]
    refine ⟨⟨fun q => absurd q n1, fun _ => ⟨⟨v42, trivial⟩, fun q => absurd q n2, fun _ => ⟨⟨vp_in_nI (N := 49) (by omega) (by omega), trivial⟩, trivial⟩⟩⟩, ⟨w1, fun _ => ⟨vp_in_nI (N := 600) (by omega) (by omega), trivial⟩, fun q => absurd rfl q⟩, ?_, ts, hT.km w2⟩
    dsimp only
    rw [w3.1.2.2.2.2.2.2.2 n hn]
    exact congrArg Int32.toInt64 (hT.2.2.2.2.1 n hn)
  · rw [d2, if_neg (show ¬ (1 : Int32) = 0 by decide)]
    have v : a0 < 0 ∨ (¬ a0 < 0 ∧ nI (mLg (rn M msZ ts)).length ≤ a0) := by
      by_cases q : a0 < 0
      · exact Or.inl q
      · refine Or.inr ⟨q, ?_⟩
        obtain ⟨n, hn, rfl⟩ := exn q
        refine (nI_leI (by omega) hn).mpr ?_
        by_cases w : n < (mLg (rn M msZ ts)).length
        · exact absurd ⟨n, w, rfl⟩ d3
        · omega
    rcases v with q | ⟨q, w⟩
    · rw [if_pos q]
      exact ⟨⟨fun _ => trivial, fun z => absurd q z⟩, ⟨w1, fun z => absurd z (by decide), fun _ => trivial⟩, rfl, ts, hT.km w2⟩
    · rw [if_neg q, if_pos w]
      exact ⟨⟨fun z => absurd z q, fun _ => ⟨⟨v42, trivial⟩, fun _ => trivial, fun z => absurd w z⟩⟩, ⟨w1, fun z => absurd z (by decide), fun _ => trivial⟩, rfl, ts, hT.km w2⟩
