/-! declare -/
theorem ltm1 {x : Int32} (h : x < 0) (h1 : ¬ x = -1) : x < -1 := by
  rw [Int32.lt_iff_toInt_lt] at h ⊢
  rw [Int32.toInt_zero] at h
  have e : (-1 : Int32).toInt = -1 := by decide
  rw [e]
  have : ¬ x.toInt = -1 := fun q => h1 (Int32.toInt_inj.mp (by rw [q, e]))
  omega
theorem nm1 {a : Nat} (h : a < 2 ^ 31) : ¬ nI a < (-1 : Int32) := by
  intro q
  have := nI_pos h
  rw [Int32.lt_iff_toInt_lt] at q this
  rw [Int32.toInt_zero] at this
  have e : (-1 : Int32).toInt = -1 := by decide
  rw [e] at q
  omega
theorem m_j46 {F : cs_Mem} {c : Nat} {y1 y2 y3 y4 : Int32} (h0 : F 62 0 = nI c) (hc : c < 8) : pre_Mo_declare_J46 F 62 y1 y2 y3 y4 ∧ ∃ O, f_Mo_declare_J46 F 62 y1 y2 y3 y4 = (nI c, O) ∧ O 63 = upd (F 63) c y1 ∧ O 68 = upd (F 68) c (vp_nar .boolean y2) ∧ O 69 = upd (F 69) c (vp_nar .boolean y3) ∧ O 64 = upd (F 64) c (if y3 = 0 then 0 else y4) ∧ O 62 = upd (upd (F 62) 31 0) 0 (nI (c + 1)) ∧ ∀ i, i ≠ 63 → i ≠ 68 → i ≠ 69 → i ≠ 64 → i ≠ 62 → O i = F i := by
  have n8 : ¬ nI c = 8 := fun q => absurd ((neq (b := 8) (by omega) (by omega)).mp q) (by omega)
  have v8 : vp_in (nI c) 8 := vp_in_nI (by omega) (by omega)
  have u0 : upd (F 62) 31 0 0 = nI c := by rw [up_n (by omega), h0]
  have e62 : ∀ (G : cs_Mem) (j : Nat) (g : Nat → Int32), j ≠ 62 → G 62 = F 62 → cs_up G j g 62 = F 62 := fun G j g hj hG => by rw [cs_up_ne _ _ (Ne.symm hj), hG]
  have a1 := e62 F 63 (upd (F 63) c y1) (by omega) rfl
  have a2 := e62 _ 68 (upd (cs_up F 63 (upd (F 63) c y1) 68) c (vp_nar .boolean y2)) (by omega) a1
  have a3 := e62 _ 69 (upd (cs_up (cs_up F 63 (upd (F 63) c y1)) 68 (upd (cs_up F 63 (upd (F 63) c y1) 68) c (vp_nar .boolean y2)) 69) c (vp_nar .boolean y3)) (by omega) a2
  unfold pre_Mo_declare_J46 f_Mo_declare_J46
  simp only [cs_bd_eq]
  rw [h0, nI_clamp (n := c) (by omega), a1, h0, nI_clamp (n := c) (by omega), a2, h0, nI_clamp (n := c) (by omega), a3, h0, nI_clamp (n := c) (by omega), if_neg n8]
  refine ⟨⟨fun _ => trivial, fun _ => ⟨v8, v8, v8, fun _ => ⟨v8, trivial⟩, fun _ => ⟨v8, trivial⟩⟩⟩, ?_⟩
  by_cases hy : y3 = 0
  · rw [if_pos hy, if_pos hy]
    refine ⟨_, Prod.ext ?_ rfl, ?_, ?_, ?_, ?_, ?_, fun i g1 g2 g3 g4 g5 => ?_⟩
    · dsimp only
      rw [cs_up_self, up_s, cs_up_self, cs_up_ne _ _ (show 62 ≠ 64 by omega), a3, u0, nI_1, nI_pred]
    · simp [cs_up]
    · simp [cs_up]
    · simp [cs_up]
    · simp [cs_up]
    · rw [cs_up_self, cs_up_self, cs_up_ne _ _ (show 62 ≠ 64 by omega), a3, u0, nI_1]
    · simp [cs_up, g1, g2, g3, g4, g5]
  · rw [if_neg hy, if_neg hy]
    refine ⟨_, Prod.ext ?_ rfl, ?_, ?_, ?_, ?_, ?_, fun i g1 g2 g3 g4 g5 => ?_⟩
    · dsimp only
      rw [cs_up_self, up_s, cs_up_self, cs_up_ne _ _ (show 62 ≠ 64 by omega), a3, u0, nI_1, nI_pred]
    · simp [cs_up]
    · simp [cs_up]
    · simp [cs_up]
    · simp [cs_up]
    · rw [cs_up_self, cs_up_self, cs_up_ne _ _ (show 62 ≠ 64 by omega), a3, u0, nI_1]
    · simp [cs_up, g1, g2, g3, g4, g5]
def CJ (M B : cs_Mem) (c : Nat) (y1 y2 y3 v : Int32) : Prop := B 1 = upd (M 1) 6 (nI (c + 1)) ∧ B 2 = upd (M 2) c (vp_nar .boolean y2) ∧ B 3 = upd (M 3) c (vp_nar .boolean y3) ∧ B 4 = upd (M 4) c v ∧ (∀ i, ((4 < i ∧ i < 8) ∨ 51 < i) → B i = M i) ∧ ((y1 = -1 ∧ ∀ i, 8 ≤ i → i < 52 → B i = M i) ∨ (¬ y1 = -1 ∧ InsP M B c 0 0 y1))
theorem c_j28 {M : cs_Mem} {c : Nat} {y1 y2 y3 y4 : Int32} (h6 : M 1 6 = nI c) (hc : c < 8) (hL : M (8 + 4 * c) 5 = nI 0) (hU : M (8 + 4 * c) 4 = nI 0) : pre_Pr_addClass_J28 M 1 y1 y2 y3 y4 ∧ ∃ B, f_Pr_addClass_J28 M 1 y1 y2 y3 y4 = (nI c, B) ∧ CJ M B c y1 y2 y3 (if y3 = 0 then 0 else y4) := by
  have c8 : nI c < 8 := (nlt (b := 8) (by omega) (by omega)).mpr hc
  have v8 : vp_in (nI c) 8 := vp_in_nI (by omega) (by omega)
  have v11 : vp_in (nI c) 11 := vp_in_nI (by omega) (by omega)
  have tail : ∀ v : Int32, ∃ A, cs_up (cs_up (cs_up (cs_up M 1 (upd (M 1) 6 (nI c + 1))) 2 (upd ((cs_up M 1 (upd (M 1) 6 (nI c + 1))) 2) c (vp_nar .boolean y2))) 3 (upd ((cs_up (cs_up M 1 (upd (M 1) 6 (nI c + 1))) 2 (upd ((cs_up M 1 (upd (M 1) 6 (nI c + 1))) 2) c (vp_nar .boolean y2))) 3) c (vp_nar .boolean y3))) 4 (upd ((cs_up (cs_up (cs_up M 1 (upd (M 1) 6 (nI c + 1))) 2 (upd ((cs_up M 1 (upd (M 1) 6 (nI c + 1))) 2) c (vp_nar .boolean y2))) 3 (upd ((cs_up (cs_up M 1 (upd (M 1) 6 (nI c + 1))) 2 (upd ((cs_up M 1 (upd (M 1) 6 (nI c + 1))) 2) c (vp_nar .boolean y2))) 3) c (vp_nar .boolean y3))) 4) c v) = A ∧ pre_Sc_addUseAhead A (8 + 4 * c) y1 ∧ ∃ B, (if y1 = -1 then (nI c, A) else (nI c, f_Sc_addUseAhead A (8 + 4 * c) y1)) = (nI c, B) ∧ CJ M B c y1 y2 y3 v := by
    intro v
    refine ⟨_, rfl, ?_⟩
    generalize hA : cs_up (cs_up (cs_up (cs_up M 1 (upd (M 1) 6 (nI c + 1))) 2 (upd ((cs_up M 1 (upd (M 1) 6 (nI c + 1))) 2) c (vp_nar .boolean y2))) 3 (upd ((cs_up (cs_up M 1 (upd (M 1) 6 (nI c + 1))) 2 (upd ((cs_up M 1 (upd (M 1) 6 (nI c + 1))) 2) c (vp_nar .boolean y2))) 3) c (vp_nar .boolean y3))) 4 (upd ((cs_up (cs_up (cs_up M 1 (upd (M 1) 6 (nI c + 1))) 2 (upd ((cs_up M 1 (upd (M 1) 6 (nI c + 1))) 2) c (vp_nar .boolean y2))) 3 (upd ((cs_up (cs_up M 1 (upd (M 1) 6 (nI c + 1))) 2 (upd ((cs_up M 1 (upd (M 1) 6 (nI c + 1))) 2) c (vp_nar .boolean y2))) 3) c (vp_nar .boolean y3))) 4) c v) = A
    have A1 : A 1 = upd (M 1) 6 (nI (c + 1)) := by rw [← hA, nI_1]; simp [cs_up]
    have A2 : A 2 = upd (M 2) c (vp_nar .boolean y2) := by rw [← hA]; simp [cs_up]
    have A3 : A 3 = upd (M 3) c (vp_nar .boolean y3) := by rw [← hA]; simp [cs_up]
    have A4 : A 4 = upd (M 4) c v := by rw [← hA]; simp [cs_up]
    have Ai : ∀ i, i = 0 ∨ 4 < i → A i = M i := fun i hi => by
      rw [← hA, cs_up_ne _ _ (by omega), cs_up_ne _ _ (by omega), cs_up_ne _ _ (by omega), cs_up_ne _ _ (by omega)]
    have cu := c_addUse (M := A) (f := c) (x := y1) hc (L := 0) (U := 0) (by rw [Ai _ (by omega)]; exact hL) (by rw [Ai _ (by omega)]; exact hU) (by omega) (by omega)
    refine ⟨cu.1, ?_⟩
    by_cases q : y1 = -1
    · rw [if_pos q]
      exact ⟨A, rfl, A1, A2, A3, A4, fun i hi => Ai i (by omega), Or.inl ⟨q, fun i i1 i2 => Ai i (by omega)⟩⟩
    · rw [if_neg q]
      obtain ⟨j1, j2, j3, j4, j5⟩ := cu.2
      refine ⟨_, rfl, ?_, ?_, ?_, ?_, fun i hi => ?_, Or.inr ⟨q, ?_, ?_, ?_, ?_, fun i i1 i2 i3 => ?_⟩⟩
      · rw [j5 1 (by omega), A1]
      · rw [j5 2 (by omega), A2]
      · rw [j5 3 (by omega), A3]
      · rw [j5 4 (by omega), A4]
      · rw [j5 i (by omega), Ai i (by omega)]
      · rw [j1, Ai _ (by omega)]
      · rw [j2, Ai _ (by omega)]
      · rw [j3, Ai _ (by omega)]
      · rw [j4, Ai _ (by omega)]
      · rw [j5 i i3, Ai i (by omega)]
  unfold pre_Pr_addClass_J28 f_Pr_addClass_J28
  simp only [cs_bd_eq]
  rw [h6, nI_clamp (n := c) (by omega), if_pos c8]
  by_cases hy : y3 = 0
  · obtain ⟨A, hA, t1, t2⟩ := tail 0
    rw [if_pos hy, if_pos hy, hA]
    refine ⟨⟨fun _ => ⟨v8, v8, fun _ => ⟨v8, fun _ => trivial, fun _ => ⟨v11, t1, trivial⟩⟩, fun q => absurd hy q⟩, fun q => absurd c8 q⟩, t2⟩
  · obtain ⟨A, hA, t1, t2⟩ := tail y4
    rw [if_neg hy, if_neg hy, hA]
    refine ⟨⟨fun _ => ⟨v8, v8, fun q => absurd q hy, fun _ => ⟨v8, fun _ => trivial, fun _ => ⟨v11, t1, trivial⟩⟩⟩, fun q => absurd c8 q⟩, t2⟩
theorem prel_dec {M O : cs_Mem} {y1 y2 y3 v : Int32} (hW : WP M) (hP : PRel M) (hc : pgN M < 8) (hy1 : y1 = -1 ∨ ∃ p, p < pgN M ∧ y1 = nI p) (hy2 : y2 = 0 ∨ y2 = 1) (hy3 : y3 = 0 ∨ y3 = 1) (h12 : ¬ y2 = 0 → y1 = -1) (h62 : O 62 0 = nI (pgN M + 1)) (w1 : O 1 6 = nI (pgN M + 1)) (w2 : O 2 = upd (M 2) (pgN M) y2) (w3 : O 3 = upd (M 3) (pgN M) y3) (w4 : O 4 = upd (M 4) (pgN M) v) (w5 : ∀ i, 4 < i → i < 8 → O i = M i) (w63 : O 63 = upd (M 63) (pgN M) y1) (w68 : O 68 = upd (M 68) (pgN M) y2) (w69 : O 69 = upd (M 69) (pgN M) y3) (w64 : O 64 = upd (M 64) (pgN M) v) (r : ∀ i, i = 65 ∨ i = 67 ∨ (69 < i ∧ i < 76) → O i = M i)
    (hs : (y1 = -1 ∧ ∀ i, 8 ≤ i → i < 52 → O i = M i) ∨ (¬ y1 = -1 ∧ InsP M O (pgN M) 0 0 y1)) : WP O ∧ PRel O := by
  obtain ⟨c, hcc⟩ : ∃ c, pgN M = c := ⟨_, rfl⟩
  have p3 := hP.2.2.1 c (by omega) (by omega)
  have hN : pgN O = c + 1 := by unfold pgN; rw [w1, hcc]; exact nI_clamp (by omega)
  obtain ⟨l1, l2, l3, l4, l5, l6⟩ := wpLU hW (show c < 11 by omega)
  have hL0 : pgL M c = 0 := p3.2.1
  have hU0 : pgU M c = 0 := by omega
  rw [hcc] at hy1 h62 w1 w2 w3 w4 w63 w68 w69 w64 hs
  have oth : ∀ g, g < 11 → g ≠ c → pgL O g = pgL M g ∧ pgU O g = pgU M g ∧ (∀ p, pgA O g p = pgA M g p ∧ pgX O g p = pgX M g p ∧ pgY O g p = pgY M g p) ∧ ∀ i, 8 + 4 * g ≤ i → i ≤ 8 + 4 * g + 3 → O i = M i := fun g hg hgc => by
    rcases hs with ⟨-, h⟩ | ⟨-, h⟩
    · have e : ∀ i, 8 + 4 * g ≤ i → i ≤ 8 + 4 * g + 3 → O i = M i := fun i h1 h2 => h i (by omega) (by omega)
      unfold pgL pgU pgA pgX pgY
      rw [e _ (by omega) (by omega), e _ (by omega) (by omega), e _ (by omega) (by omega), e _ (by omega) (by omega)]
      exact ⟨rfl, rfl, fun p => ⟨rfl, rfl, rfl⟩, e⟩
    · exact h.o hg hgc
  have h65 : M 65 c = 0 := p3.2.2
  have ulc : ul O c = if y1 < 0 then [] else [y1] := by
    unfold ul
    rw [w63, up_s, r 65 (by omega), h65]
    have e3 : ¬ ((0 : Int32) < 0) := by decide
    have e6 : ¬ ((1 : Int32) < 0) := by decide
    simp only [e3, e6, false_and, if_false, List.append_nil]
  have ulo : ∀ d, d ≠ c → ul O d = ul M d := fun d hd => by
    unfold ul
    rw [w63, up_n hd, r 65 (by omega), r 70 (by omega), r 71 (by omega)]
  have own : pgL O c - pgU O c = 0 ∧ WPf O c ∧ pgL O c = pgU O c ∧ pgU O c = (ul O c).length ∧ (∀ p, p < pgU O c → pgX O c p = (ul O c).getD p 0 ∧ ∃ x, x < c ∧ pgX O c p = nI x) := by
    rcases hs with ⟨hy, h⟩ | ⟨hy, h⟩
    · have e : ∀ i, 8 + 4 * c ≤ i → i ≤ 8 + 4 * c + 3 → O i = M i := fun i h1 h2 => h i (by omega) (by omega)
      have eL : pgL O c = 0 := by rw [← hL0]; unfold pgL; rw [e _ (by omega) (by omega)]
      have eU : pgU O c = 0 := by rw [← hU0]; unfold pgU; rw [e _ (by omega) (by omega)]
      rw [hy, if_pos m1lt0] at ulc
      rw [eL, eU, ulc]
      exact ⟨rfl, (hW.2.2.2 c (by omega)).same e, rfl, rfl, fun p hp => by omega⟩
    · obtain ⟨p, hp, rfl⟩ := hy1.resolve_left hy
      obtain ⟨g1, g2, g3, g4, g5, g6, g7⟩ := h.f (by omega) (by omega)
      rw [if_neg (npos (by omega))] at ulc
      have h' : InsP M O c (pgL M c) (pgU M c) (nI p) := by rw [hL0, hU0]; exact h
      rw [g1, g2, ulc]
      refine ⟨by omega, wpf_ins hW (by omega) h' (by omega) (by omega), rfl, rfl, fun q hq => ?_⟩
      have : q = 0 := by omega
      subst this
      rw [g6]
      exact ⟨rfl, p, hp, rfl⟩
  obtain ⟨o1, o2, o3, o4, o5⟩ := own
  have b01 : ∀ (r : Nat → Int32) (y : Int32), (y = 0 ∨ y = 1) → (∀ d, d < 8 → r d = 0 ∨ r d = 1) → ∀ d, d < 8 → upd r c y d = 0 ∨ upd r c y d = 1 := fun r y hy h d hd => by
    by_cases q : d = c
    · rw [q, up_s]; exact hy
    · rw [up_n q]; exact h d hd
  refine ⟨⟨⟨c + 1, by omega, w1⟩, ?_, ?_, fun g hg => ?_⟩, ?_⟩
  · rw [w3]; exact b01 _ _ hy3 hW.2.1
  · rw [w2]; exact b01 _ _ hy2 hW.2.2.1
  · by_cases q : g = c
    · rw [q]; exact o2
    · exact (hW.2.2.2 g hg).same (oth g hg q).2.2.2
  obtain ⟨p1, p2, p3', p4, p5, p6⟩ := hP
  refine ⟨?_, fun d hd => ?_, fun d q1 q2 => ?_, fun d hd => ?_, fun t ht => ?_, fun g hg i hi => ?_⟩
  · rw [h62, w1]
  · obtain ⟨k1, k2, k3, k4, k5, k6, k7⟩ := p2 d hd
    rw [w68, w2, w69, w3, w64, w4, r 65 (by omega), w5 6 (by omega) (by omega), r 67 (by omega), r 70 (by omega), w5 5 (by omega) (by omega)]
    by_cases q : d = c
    · subst q
      rw [up_s, up_s, up_s, up_s, up_s, up_s, o1]
      refine ⟨rfl, rfl, rfl, k4, k5, ?_, k7⟩
      rw [k6, hL0, hU0]
    · rw [up_n q, up_n q, up_n q, up_n q, up_n q, up_n q, (oth d (by omega) q).1, (oth d (by omega) q).2.1]
      exact ⟨k1, k2, k3, k4, k5, k6, k7⟩
  · rw [hN] at q1
    rw [w3, up_n (by omega), r 65 (by omega), (oth d (by omega) (by omega)).1]
    exact p3' d (by omega) q2
  · rw [hN] at hd
    by_cases q : d = c
    · subst q
      refine ⟨o4, o5, fun w => ?_⟩
      rw [w2, up_s] at w
      rw [w63, up_s, r 65 (by omega)]
      exact ⟨h12 w, h65⟩
    · rw [(oth d (by omega) q).2.1, ulo d q, w2, up_n q, w63, up_n q, r 65 (by omega)]
      refine ⟨(p4 d (by omega)).1, fun p hp => ?_, (p4 d (by omega)).2.2⟩
      rw [((oth d (by omega) q).2.2.1 p).2.1]
      exact (p4 d (by omega)).2.1 p hp
  · rw [r 75 (by omega), (oth (8 + t) (by omega) (by omega)).1, (oth (8 + t) (by omega) (by omega)).2.1]
    exact p5 t ht
  · rw [r 72 (by omega), r 73 (by omega), r 74 (by omega)]
    by_cases q : g = c
    · subst q
      omega
    · obtain ⟨k1, k2, k3, k4⟩ := oth g hg q
      rw [k1, k2] at hi
      rw [k2, (k3 _).1, (k3 _).2.1, (k3 _).2.2]
      exact p6 g hg i hi
theorem two_j {M : cs_Mem} (hW : WP M) (hP : PRel M) {y1 y2 y3 y4 : Int32} (hy1 : y1 = -1 ∨ ∃ p, p < pgN M ∧ y1 = nI p) (hy2 : y2 = 0 ∨ y2 = 1) (hy3 : y3 = 0 ∨ y3 = 1) (h12 : ¬ y2 = 0 → y1 = -1) : pre_Pr_addClass_J28 M 1 y1 y2 y3 y4 ∧ Two M (f_Pr_addClass_J28 M 1 y1 y2 y3 y4) (fun N => f_Mo_declare_J46 N 62 y1 y2 y3 y4) (fun N => pre_Mo_declare_J46 N 62 y1 y2 y3 y4) ∧ (f_Pr_addClass_J28 M 1 y1 y2 y3 y4).2 62 = M 62 ∧ (f_Pr_addClass_J28 M 1 y1 y2 y3 y4).2 68 = M 68 := by
  have e6 := (wpN hW).1
  have hn8 := (wpN hW).2
  have e0 : M 62 0 = nI (pgN M) := hP.1.trans e6
  by_cases hc : pgN M < 8
  · obtain ⟨l1, l2, l3, l4, l5, l6⟩ := wpLU hW (show pgN M < 11 by omega)
    have hL0 : pgL M (pgN M) = 0 := (hP.2.2.1 (pgN M) (by omega) (by omega)).2.1
    have hU0 : pgU M (pgN M) = 0 := by omega
    rw [hL0] at l1
    rw [hU0] at l2
    obtain ⟨cp, B, cf, b1, b2, b3, b4, b5, b6⟩ := c_j28 (y1 := y1) (y2 := y2) (y3 := y3) (y4 := y4) e6 hc l1 l2
    rw [cf]
    refine ⟨cp, ?_, b5 62 (by omega), b5 68 (by omega)⟩
    right
    dsimp only
    obtain ⟨F, hF⟩ : ∃ F, f_Ex_forget B 55 = F := ⟨_, rfl⟩
    have f55 : F 55 = upd (upd (M 55) 4 0) 8 0 := by rw [← hF, fg55, b5 55 (by omega)]
    have fu : ∀ i, i ≠ 55 → F i = B i := fun i hi => by rw [← hF]; exact fr_Ex_forget hi
    have fi : ∀ i, 52 ≤ i → i ≠ 55 → F i = M i := fun i h1 h2 => by rw [fu i h2, b5 i (by omega)]
    obtain ⟨mp, O, mf, w63, w68, w69, w64, w62, wi⟩ := m_j46 (F := F) (c := pgN M) (y1 := y1) (y2 := y2) (y3 := y3) (y4 := y4) (by rw [fi 62 (by omega) (by omega)]; exact e0) hc
    rw [hF, mf]
    refine ⟨nI_m1 (by omega), nI_m2 (by omega), mp, rfl, ?_⟩
    dsimp only
    rw [fi 63 (by omega) (by omega)] at w63
    rw [fi 68 (by omega) (by omega), nar01 hy2] at w68
    rw [fi 69 (by omega) (by omega), nar01 hy3] at w69
    rw [fi 64 (by omega) (by omega)] at w64
    rw [fi 62 (by omega) (by omega)] at w62
    rw [nar01 hy2] at b2
    rw [nar01 hy3] at b3
    have OB : ∀ i, i < 52 → O i = B i := fun i hi => by rw [wi i (by omega) (by omega) (by omega) (by omega) (by omega), fu i (by omega)]
    have rr := prel_dec (M := M) (O := O) hW hP hc hy1 hy2 hy3 h12 (by rw [w62, up_s]) (by rw [OB 1 (by omega), b1, up_s]) (by rw [OB 2 (by omega), b2]) (by rw [OB 3 (by omega), b3]) (by rw [OB 4 (by omega), b4]) (fun i i1 i2 => by rw [OB i (by omega), b5 i (by omega)]) w63 w68 w69 w64 (fun i hi => by rw [wi i (by omega) (by omega) (by omega) (by omega) (by omega), fi i (by omega) (by omega)]) (by
      rcases b6 with ⟨g1, g2⟩ | ⟨g1, g2⟩
      · exact Or.inl ⟨g1, fun i i1 i2 => by rw [OB i i2, g2 i i1 i2]⟩
      · obtain ⟨j1, j2, j3, j4, j5⟩ := g2
        exact Or.inr ⟨g1, by rw [OB _ (by omega)]; exact j1, by rw [OB _ (by omega)]; exact j2, by rw [OB _ (by omega)]; exact j3, by rw [OB _ (by omega)]; exact j4, fun i i1 i2 i3 => by rw [OB i i2]; exact j5 i i1 i2 i3⟩)
    exact ⟨rr.1, rr.2, fun i i1 i2 i3 i4 => by rw [wi i (by omega) (by omega) (by omega) (by omega) i3, fi i i1 i2], by rw [wi 55 (by omega) (by omega) (by omega) (by omega) (by omega), f55], by rw [w62, up_n (by omega), up_s], fun q q1 q2 => by rw [w62, up_n q1, up_n q2]⟩
  · have c8 : ¬ nI (pgN M) < 8 := fun q => absurd ((nlt (b := 8) (by omega) (by omega)).mp q) (by omega)
    have e8 : nI (pgN M) = 8 := by rw [show pgN M = 8 by omega]; rfl
    have cf : f_Pr_addClass_J28 M 1 y1 y2 y3 y4 = (-2, M) := by
      unfold f_Pr_addClass_J28
      rw [e6, if_neg c8]
    rw [cf]
    refine ⟨?_, Or.inl ⟨Or.inr rfl, rfl, ?_, ?_⟩, rfl, rfl⟩
    · unfold pre_Pr_addClass_J28
      rw [e6]
      exact ⟨fun q => absurd q c8, fun _ => trivial⟩
    · show pre_Mo_declare_J46 M 62 y1 y2 y3 y4
      unfold pre_Mo_declare_J46
      rw [e0]
      exact ⟨fun _ => trivial, fun q => absurd e8 q⟩
    · show f_Mo_declare_J46 M 62 y1 y2 y3 y4 = _
      unfold f_Mo_declare_J46
      rw [e0, if_pos e8]
theorem Two.congr2 {M : cs_Mem} {c : Int32 × cs_Mem} {m m' : cs_Mem → Int32 × cs_Mem} {pm pm' : cs_Mem → Prop} (h : Two M c m pm) (e : ∀ N, N 62 = M 62 → N 68 = M 68 → m' N = m N ∧ (pm N → pm' N)) (hc : c.2 62 = M 62) (hc2 : c.2 68 = M 68) : Two M c m' pm' := by
  have e2 := e (f_Ex_forget c.2 55) (by rw [fr_Ex_forget (by omega)]; exact hc) (by rw [fr_Ex_forget (by omega)]; exact hc2)
  rcases h with ⟨h1, h2, h3, h4⟩ | ⟨h1, h2, h3, h4, h5⟩
  · exact Or.inl ⟨h1, h2, (e M rfl rfl).2 h3, (e M rfl rfl).1.trans h4⟩
  · refine Or.inr ⟨h1, h2, e2.2 h3, ?_, ?_⟩
    · rw [e2.1]; exact h4
    · rw [e2.1]; exact h5
theorem two_dec {M : cs_Mem} (hW : WP M) (hP : PRel M) (h16 : M 62 16 = 0) (a0 a1 a2 a3 : Int32) (h1 : a1 = 0 ∨ a1 = 1) (h2 : a2 = 0 ∨ a2 = 1) : pre_Pr_addClass M 1 a0 a1 a2 a3 ∧ Two M (f_Pr_addClass M 1 a0 a1 a2 a3) (fun N => f_Mo_declare N 62 a0 a1 a2 a3) (fun N => pre_Mo_declare N 62 a0 a1 a2 a3) := by
  have e6 := (wpN hW).1
  have hn8 := (wpN hW).2
  have e0 : M 62 0 = nI (pgN M) := hP.1.trans e6
  have bad : ∀ c : Int32 × cs_Mem, c = (-1, M) → f_Mo_declare M 62 a0 a1 a2 a3 = (-1, M) → pre_Mo_declare M 62 a0 a1 a2 a3 → Two M c (fun N => f_Mo_declare N 62 a0 a1 a2 a3) (fun N => pre_Mo_declare N 62 a0 a1 a2 a3) := fun c hc h1 h2 => by
    rw [hc]
    exact Or.inl ⟨Or.inl rfl, rfl, h2, h1⟩
  unfold pre_Pr_addClass f_Pr_addClass
  simp only [cs_bd_eq]
  by_cases q : a0 = -1
  · subst q
    have t := two_j (y4 := a3) hW hP (y1 := -1) (Or.inl rfl) h1 h2 (fun _ => rfl)
    rw [if_pos rfl]
    refine ⟨⟨fun _ => t.1, fun w => absurd rfl w⟩, t.2.1.congr2 (fun N n1 n2 => ?_) t.2.2.1 t.2.2.2⟩
    have g1 : ¬ (-1 : Int32) < -1 := by decide
    have g2 : ¬ nI (pgN M) ≤ (-1 : Int32) := fun w => by
      have := npos' (a := pgN M) (by omega)
      exact absurd (Int32.le_trans this w) (by decide)
    unfold f_Mo_declare pre_Mo_declare f_Mo_declare_J31 pre_Mo_declare_J31
    rw [n1, h16, e0, if_pos (show (0 : Int32) = 0 from rfl), if_neg g1, if_neg g2, if_pos m1lt0]
    refine ⟨?_, fun w => ⟨fun _ => ⟨fun z => absurd z g1, fun _ => ⟨fun z => absurd z g2, fun _ => ⟨fun _ => ⟨fun _ => w, fun z => absurd m1lt0 z⟩, fun _ => ⟨fun _ => ⟨fun _ => w, fun z => absurd m1lt0 z⟩, fun z => absurd rfl z⟩⟩⟩⟩, fun z => absurd rfl z⟩⟩
    split
    · rfl
    · rw [if_pos rfl]
  · rw [if_neg q]
    rcases decl_out M hW a0 with ⟨d1, d2, p, hp, rfl⟩ | ⟨d1, d2, d3⟩
    · have p2 := hP.2.1 p (by omega)
      have v8 : vp_in (nI p) 8 := vp_in_nI (by omega) (by omega)
      have g1 : ¬ nI p < (-1 : Int32) := nm1 (by omega)
      have g2 : ¬ nI (pgN M) ≤ nI p := fun w => absurd ((nle (by omega) (by omega)).mp w) (by omega)
      have g3 : ¬ nI p < 0 := npos (by omega)
      rw [d1, if_neg (show ¬ (1 : Int32) = 0 by decide), nI_clamp (n := p) (by omega)]
      by_cases y2 : a1 = 0
      · rw [if_pos y2]
        by_cases b : M 2 p = 0
        · have t := two_j (y4 := a3) hW hP (y1 := nI p) (y2 := a1) (Or.inr ⟨p, hp, rfl⟩) h1 h2 (fun w => absurd y2 w)
          rw [if_pos b]
          refine ⟨⟨fun w => absurd w q, fun _ => ⟨fun _ => ⟨fun z => absurd z (by decide), fun _ => ⟨v8, fun _ => t.1, fun z => absurd b z⟩⟩, fun z => absurd y2 z⟩⟩, t.2.1.congr2 (fun N n1 n2 => ?_) t.2.2.1 t.2.2.2⟩
          have b' : M 68 p = 0 := by rw [p2.1]; exact b
          unfold f_Mo_declare pre_Mo_declare f_Mo_declare_J31 pre_Mo_declare_J31
          rw [n1, n2, h16, e0, nI_clamp (n := p) (by omega), if_pos (show (0 : Int32) = 0 from rfl), if_neg g1, if_neg g2, if_pos y2, if_neg g3, if_pos b']
          exact ⟨rfl, fun w => ⟨fun _ => ⟨fun z => absurd z g1, fun _ => ⟨fun z => absurd z g2, fun _ => ⟨fun _ => ⟨fun _ => w, fun _ => ⟨v8, fun _ => w, fun z => absurd b' z⟩⟩, fun z => absurd y2 z⟩⟩⟩, fun z => absurd rfl z⟩⟩
        · have b' : ¬ M 68 p = 0 := by rw [p2.1]; exact b
          rw [if_neg b]
          refine ⟨⟨fun w => absurd w q, fun _ => ⟨fun _ => ⟨fun z => absurd z (by decide), fun _ => ⟨v8, fun z => absurd z b, fun _ => trivial⟩⟩, fun z => absurd y2 z⟩⟩, bad _ rfl ?_ ?_⟩
          · unfold f_Mo_declare f_Mo_declare_J31
            rw [h16, e0, nI_clamp (n := p) (by omega), if_pos rfl, if_neg g1, if_neg g2, if_pos y2, if_neg g3, if_neg b']
          · unfold pre_Mo_declare pre_Mo_declare_J31
            rw [e0, nI_clamp (n := p) (by omega)]
            exact ⟨fun _ => ⟨fun z => absurd z g1, fun _ => ⟨fun z => absurd z g2, fun _ => ⟨fun _ => ⟨fun z => absurd z g3, fun _ => ⟨v8, fun z => absurd z b', fun _ => trivial⟩⟩, fun z => absurd y2 z⟩⟩⟩, fun _ => trivial⟩
      · rw [if_neg y2]
        refine ⟨⟨fun w => absurd w q, fun _ => ⟨fun z => absurd z y2, fun _ => trivial⟩⟩, bad _ rfl ?_ ?_⟩
        · unfold f_Mo_declare f_Mo_declare_J29
          rw [h16, e0, if_pos rfl, if_neg g1, if_neg g2, if_neg y2, if_neg q]
        · unfold pre_Mo_declare
          rw [e0]
          exact ⟨fun _ => ⟨fun z => absurd z g1, fun _ => ⟨fun z => absurd z g2, fun _ => ⟨fun z => absurd z y2, fun _ => ⟨fun z => absurd z q, fun _ => trivial⟩⟩⟩⟩, fun _ => trivial⟩
    · rw [d1, if_pos (show (0 : Int32) = 0 from rfl)]
      have hor : a0 < -1 ∨ (¬ a0 < -1 ∧ nI (pgN M) ≤ a0) := by
        by_cases w : a0 < 0
        · exact Or.inl (ltm1 w q)
        · obtain ⟨n, hn, rfl⟩ := exn w
          refine Or.inr ⟨nm1 hn, (nI_leI (by omega) hn).mpr ?_⟩
          by_cases z : n < pgN M
          · exact absurd ⟨n, z, rfl⟩ d3
          · omega
      refine ⟨⟨fun w => absurd w q, fun _ => ⟨fun _ => ⟨fun _ => trivial, fun z => absurd rfl z⟩, fun _ => trivial⟩⟩, bad _ ?_ ?_ ?_⟩
      · unfold f_Pr_addClass_J26
        split <;> rfl
      · unfold f_Mo_declare f_Mo_declare_J29
        rw [h16, e0, if_pos rfl]
        rcases hor with w | w
        · rw [if_pos w]
        · rw [if_neg w.1, if_pos w.2]
      · unfold pre_Mo_declare
        rw [e0]
        refine ⟨fun _ => ⟨fun _ => trivial, fun z1 => ⟨fun _ => trivial, fun z2 => ?_⟩⟩, fun _ => trivial⟩
        rcases hor with w | w
        · exact absurd w z1
        · exact absurd w.2 z2
