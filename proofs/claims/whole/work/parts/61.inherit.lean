/-! inherit -/
theorem nar01 {y : Int32} (h : y = 0 ∨ y = 1) : vp_nar .boolean y = y := by
  rcases h with rfl | rfl <;> decide
theorem ih_S (n : Nat) (M : cs_Mem) (y1 y2 y3 : Int32) : f_Pr_inherits_L2 (n + 1) M 1 y1 y2 y3 = if (M 6 y1.toNatClampNeg) ≤ y3 then 0 else if (M 5 ((y1 * 2) + y3).toNatClampNeg) = y2 then 1 else f_Pr_inherits_L2 n M 1 y1 y2 (y3 + 1) := by
  rw [f_Pr_inherits_L2]
  simp only [cs_bd_eq]
theorem pih_S (n : Nat) (M : cs_Mem) (y1 y2 y3 : Int32) : pre_Pr_inherits_L2 (n + 1) M 1 y1 y2 y3 ↔ vp_in y1 (cs_ln M 6) ∧ ((M 6 y1.toNatClampNeg) ≤ y3 → True) ∧ (¬ (M 6 y1.toNatClampNeg) ≤ y3 → vp_in ((y1 * 2) + y3) (cs_ln M 5) ∧ ((M 5 ((y1 * 2) + y3).toNatClampNeg) = y2 → True) ∧ (¬ (M 5 ((y1 * 2) + y3).toNatClampNeg) = y2 → pre_Pr_inherits_L2 n M 1 y1 y2 (y3 + 1))) := by
  rw [pre_Pr_inherits_L2]
  simp only [cs_bd_eq]
theorem inhL {M : cs_Mem} {c k : Nat} {x : Int32} (hc : c < 8) (hk : k ≤ 2) (h6 : M 6 c = nI k) : ∀ (d i n : Nat), i + d = k → d < n → pre_Pr_inherits_L2 n M 1 (nI c) x (nI i) ∧ ((f_Pr_inherits_L2 n M 1 (nI c) x (nI i) = 1 ∧ ∃ q, i ≤ q ∧ q < k ∧ M 5 (2 * c + q) = x) ∨ (f_Pr_inherits_L2 n M 1 (nI c) x (nI i) = 0 ∧ ∀ q, i ≤ q → q < k → ¬ M 5 (2 * c + q) = x)) := by
  intro d
  induction d with
  | zero =>
    intro i n h1 h2
    obtain ⟨m, rfl⟩ : ∃ m, n = m + 1 := ⟨n - 1, by omega⟩
    have q : nI k ≤ nI i := (nle (by omega) (by omega)).mpr (by omega)
    rw [ih_S, pih_S, nI_clamp (n := c) (by omega), h6, if_pos q]
    exact ⟨⟨vp_in_nI (N := 8) (by omega) (by omega), fun _ => trivial, fun w => absurd q w⟩, Or.inr ⟨rfl, fun a b d => by omega⟩⟩
  | succ d ih =>
    intro i n h1 h2
    obtain ⟨m, rfl⟩ : ∃ m, n = m + 1 := ⟨n - 1, by omega⟩
    have q : ¬ nI k ≤ nI i := fun w => absurd ((nle (by omega) (by omega)).mp w) (by omega)
    have e : nI c * 2 + nI i = nI (2 * c + i) := by rw [show (2 : Int32) = nI 2 from rfl, nI_mul, nI_add]; exact congrArg nI (by omega)
    have r := ih (i + 1) m (by omega) (by omega)
    rw [ih_S, pih_S, nI_clamp (n := c) (by omega), h6, if_neg q, e, nI_clamp (n := 2 * c + i) (by omega), nI_1]
    have v1 : vp_in (nI c) (cs_ln M 6) := vp_in_nI (N := 8) (by omega) (by omega)
    have v2 : vp_in (nI (2 * c + i)) (cs_ln M 5) := vp_in_nI (N := 16) (by omega) (by omega)
    by_cases w : M 5 (2 * c + i) = x
    · rw [if_pos w]
      exact ⟨⟨v1, fun z => absurd z q, fun _ => ⟨v2, fun _ => trivial, fun z => absurd w z⟩⟩, Or.inl ⟨rfl, i, by omega, by omega, w⟩⟩
    · rw [if_neg w]
      refine ⟨⟨v1, fun z => absurd z q, fun _ => ⟨v2, fun z => absurd z w, fun _ => r.1⟩⟩, ?_⟩
      rcases r.2 with ⟨r1, p, p1, p2, p3⟩ | ⟨r1, r2⟩
      · exact Or.inl ⟨r1, p, by omega, p2, p3⟩
      · refine Or.inr ⟨r1, fun p p1 p2 => ?_⟩
        by_cases z : p = i
        · rw [z]; exact w
        · exact r2 p (by omega) p2
def iW (F : cs_Mem) (k n : Nat) (x y : Int32) : cs_Mem :=
  cs_up (cs_up (cs_up (cs_up F 70 (upd (F 70) k x)) 71 (upd ((cs_up F 70 (upd (F 70) k x)) 71) k y)) 65 (upd ((cs_up (cs_up F 70 (upd (F 70) k x)) 71 (upd ((cs_up F 70 (upd (F 70) k x)) 71) k y)) 65) n ((cs_up (cs_up F 70 (upd (F 70) k x)) 71 (upd ((cs_up F 70 (upd (F 70) k x)) 71) k y)) 65 n + 1))) 62 (upd ((cs_up (cs_up (cs_up F 70 (upd (F 70) k x)) 71 (upd ((cs_up F 70 (upd (F 70) k x)) 71) k y)) 65 (upd ((cs_up (cs_up F 70 (upd (F 70) k x)) 71 (upd ((cs_up F 70 (upd (F 70) k x)) 71) k y)) 65) n ((cs_up (cs_up F 70 (upd (F 70) k x)) 71 (upd ((cs_up F 70 (upd (F 70) k x)) 71) k y)) 65 n + 1))) 62) 31 0)
theorem iW_r (F : cs_Mem) (k n : Nat) (x y : Int32) : iW F k n x y 70 = upd (F 70) k x ∧ iW F k n x y 71 = upd (F 71) k y ∧ iW F k n x y 65 = upd (F 65) n (F 65 n + 1) ∧ iW F k n x y 62 = upd (F 62) 31 0 ∧ ∀ i, i ≠ 70 → i ≠ 71 → i ≠ 65 → i ≠ 62 → iW F k n x y i = F i := by
  unfold iW
  simp [cs_up]
  intro i h1 h2 h3 h4
  rw [if_neg h4, if_neg h3, if_neg h2, if_neg h1]
theorem i57_S (n : Nat) (M : cs_Mem) (y1 y2 y3 y4 y5 : Int32) : f_Mo_inherit_L57 (n + 1) M 62 y1 y2 y3 y4 y5 = if y4 ≤ y5 then (if y4 = 2 then ((-2), M) else (y4 + 1, iW M ((2 * y1) + y4).toNatClampNeg y1.toNatClampNeg y2 (vp_nar .boolean y3))) else if (M 70 ((2 * y1) + y5).toNatClampNeg) = y2 then ((-1), M) else f_Mo_inherit_L57 n M 62 y1 y2 y3 y4 (y5 + 1) := by
  rw [f_Mo_inherit_L57]
  simp only [cs_bd_eq]
  unfold iW
  rfl
theorem pi57_S (n : Nat) (M : cs_Mem) (y1 y2 y3 y4 y5 : Int32) (h : (y4 ≤ y5 → ¬ y4 = 2 → vp_in ((2 * y1) + y4) 16 ∧ vp_in y1 8) ∧ (¬ y4 ≤ y5 → vp_in ((2 * y1) + y5) 16 ∧ (¬ (M 70 ((2 * y1) + y5).toNatClampNeg) = y2 → pre_Mo_inherit_L57 n M 62 y1 y2 y3 y4 (y5 + 1)))) : pre_Mo_inherit_L57 (n + 1) M 62 y1 y2 y3 y4 y5 := by
  rw [pre_Mo_inherit_L57]
  simp only [cs_bd_eq]
  exact ⟨fun q => ⟨fun _ => trivial, fun w => ⟨(h.1 q w).1, (h.1 q w).1, (h.1 q w).2, (h.1 q w).2, trivial⟩⟩, fun q => ⟨(h.2 q).1, fun _ => trivial, fun w => (h.2 q).2 w⟩⟩
theorem minhL {N : cs_Mem} {c k : Nat} {x y : Int32} (hc : c < 8) (hk : k ≤ 2) : ∀ (d i n : Nat), i + d = k → d < n → pre_Mo_inherit_L57 n N 62 (nI c) x y (nI k) (nI i) ∧ ((∃ q, i ≤ q ∧ q < k ∧ N 70 (2 * c + q) = x) → f_Mo_inherit_L57 n N 62 (nI c) x y (nI k) (nI i) = (-1, N)) ∧ ((∀ q, i ≤ q → q < k → ¬ N 70 (2 * c + q) = x) → f_Mo_inherit_L57 n N 62 (nI c) x y (nI k) (nI i) = if k = 2 then (-2, N) else (nI (k + 1), iW N (2 * c + k) c x (vp_nar .boolean y))) := by
  intro d
  induction d with
  | zero =>
    intro i n h1 h2
    obtain ⟨m, rfl⟩ : ∃ m, n = m + 1 := ⟨n - 1, by omega⟩
    have q : nI k ≤ nI i := (nle (by omega) (by omega)).mpr (by omega)
    have e : (2 : Int32) * nI c + nI k = nI (2 * c + k) := by rw [show (2 : Int32) = nI 2 from rfl, nI_mul, nI_add]
    refine ⟨pi57_S m N _ _ _ _ _ ⟨fun _ w => ?_, fun w => absurd q w⟩, fun ⟨p, p1, p2, p3⟩ => by omega, fun _ => ?_⟩
    · have : ¬ k = 2 := fun z => w (by rw [z]; rfl)
      rw [e]
      exact ⟨vp_in_nI (by omega) (by omega), vp_in_nI (by omega) (by omega)⟩
    · rw [i57_S, if_pos q, e, nI_clamp (n := 2 * c + k) (by omega), nI_clamp (n := c) (by omega), nI_1]
      by_cases z : k = 2
      · rw [if_pos (show nI k = 2 by rw [z]; rfl), if_pos z]
      · rw [if_neg (show ¬ nI k = 2 from fun w => z ((neq (b := 2) (by omega) (by omega)).mp w)), if_neg z]
  | succ d ih =>
    intro i n h1 h2
    obtain ⟨m, rfl⟩ : ∃ m, n = m + 1 := ⟨n - 1, by omega⟩
    have q : ¬ nI k ≤ nI i := fun w => absurd ((nle (by omega) (by omega)).mp w) (by omega)
    have e : (2 : Int32) * nI c + nI i = nI (2 * c + i) := by rw [show (2 : Int32) = nI 2 from rfl, nI_mul, nI_add]
    obtain ⟨r1, r2, r3⟩ := ih (i + 1) m (by omega) (by omega)
    rw [i57_S, if_neg q, e, nI_clamp (n := 2 * c + i) (by omega), nI_1]
    refine ⟨pi57_S m N _ _ _ _ _ ⟨fun w => absurd w q, fun _ => ⟨?_, fun _ => by rw [nI_1]; exact r1⟩⟩, fun ⟨p, p1, p2, p3⟩ => ?_, fun h => ?_⟩
    · rw [e]; exact vp_in_nI (by omega) (by omega)
    · by_cases w : N 70 (2 * c + i) = x
      · rw [if_pos w]
      · rw [if_neg w]
        have : p ≠ i := fun z => w (by rw [← z]; exact p3)
        exact r2 ⟨p, by omega, p2, p3⟩
    · rw [if_neg (h i (by omega) (by omega))]
      exact r3 (fun p p1 p2 => h p (by omega) p2)
theorem ul_ln2 {M : cs_Mem} {c k : Nat} (h65 : M 65 c = nI k) (hk : k < 2) : (ul M c).length ≤ 2 := by
  unfold ul
  have : ¬ (1 : Int32) < M 65 c := by
    rw [h65]
    exact fun q => absurd ((nlt (a := 1) (by omega) (by omega)).mp q) (by omega)
  rw [if_neg (c := 1 < M 65 c ∧ _) (fun q => this q.1)]
  split <;> split <;> simp
theorem ul_add {M O : cs_Mem} {c k : Nat} {e y : Int32} (h65 : M 65 c = nI k) (hk : k < 2) (w63 : O 63 = M 63) (w70 : O 70 = upd (M 70) (2 * c + k) e) (w71 : O 71 = upd (M 71) (2 * c + k) y) (w65 : O 65 = upd (M 65) c (nI (k + 1))) : ul O c = ul M c ++ (if y = 0 then [] else [e]) := by
  have hk2 : k = 0 ∨ k = 1 := by omega
  unfold ul
  rw [w63, w65, up_s, h65, w70, w71]
  have e1 : ¬ ((1 : Int32) < nI 1) := by decide
  have e2 : ((0 : Int32) < nI 1) := by decide
  have e3 : ¬ ((0 : Int32) < nI 0) := by decide
  have e4 : ((0 : Int32) < nI 2) := by decide
  have e5 : ((1 : Int32) < nI 2) := by decide
  have e6 : ¬ ((1 : Int32) < nI 0) := by decide
  rcases hk2 with rfl | rfl
  · simp only [Nat.add_zero, Nat.zero_add, up_s, e1, e2, e3, e6, false_and, true_and, if_false, List.append_nil]
    by_cases hy : y = 0
    · rw [if_neg (c := ¬ y = 0) (fun q => q hy), if_pos hy]
    · rw [if_pos (c := ¬ y = 0) hy, if_neg hy]
  · rw [up_n (f := M 71) (show 2 * c ≠ 2 * c + 1 by omega), up_n (f := M 70) (show 2 * c ≠ 2 * c + 1 by omega), up_s, up_s]
    simp only [e1, e2, e4, e5, false_and, true_and, if_false, List.append_nil, List.append_assoc]
    by_cases hy : y = 0
    · rw [if_neg (c := ¬ y = 0) (fun q => q hy), if_pos hy]
    · rw [if_pos (c := ¬ y = 0) hy, if_neg hy]
theorem ul_oth {M O : cs_Mem} {c d k : Nat} {e y z : Int32} (hk : k < 2) (hd : d ≠ c) (w63 : O 63 = M 63) (w70 : O 70 = upd (M 70) (2 * c + k) e) (w71 : O 71 = upd (M 71) (2 * c + k) y) (w65 : O 65 = upd (M 65) c z) : ul O d = ul M d := by
  unfold ul
  rw [w63, w65, up_n hd, w70, w71, up_n (f := M 71) (by omega), up_n (f := M 71) (by omega), up_n (f := M 70) (by omega), up_n (f := M 70) (by omega)]
theorem getD_l {l : List Int32} {x : Int32} {p : Nat} (h : p < l.length) : (l ++ [x]).getD p 0 = l.getD p 0 := by
  simp [List.getElem?_append, h]
theorem getD_r {l : List Int32} {x : Int32} : (l ++ [x]).getD l.length 0 = x := by
  simp
theorem prel_inh {M O : cs_Mem} {c k e : Nat} {y : Int32} (hW : WP M) (hP : PRel M) (hc : c < pgN M) (he : e < c) (h2c : M 2 c = 0) (h65 : M 65 c = nI k) (hk : k < 2) (h0 : O 62 0 = M 62 0) (r : ∀ i, i = 63 ∨ i = 64 ∨ i = 67 ∨ i = 68 ∨ i = 69 ∨ i = 72 ∨ i = 73 ∨ i = 74 ∨ i = 75 → O i = M i) (w70 : O 70 = upd (M 70) (2 * c + k) (nI e)) (w71 : O 71 = upd (M 71) (2 * c + k) y) (w65 : O 65 = upd (M 65) c (nI (k + 1))) (w5 : O 5 = upd (M 5) (2 * c + k) (nI e)) (w6 : O 6 = upd (M 6) c (nI (k + 1))) (w1 : ∀ i, 1 ≤ i → i < 5 → O i = M i)
    (hs : (y = 0 ∧ ∀ i, 8 ≤ i → i < 52 → O i = M i) ∨ (¬ y = 0 ∧ InsP M O c (pgL M c) (pgU M c) (nI e))) : WP O ∧ PRel O := by
  have hn8 := (wpN hW).2
  have hN : pgN O = pgN M := by unfold pgN; rw [w1 1 (by omega) (by omega)]
  obtain ⟨l1, l2, l3, l4, l5, l6⟩ := wpLU hW (show c < 11 by omega)
  rw [if_pos (show c < 8 by omega)] at l5 l6
  have hul := (hP.2.2.2.1 c hc).1
  have hU2 : pgU M c ≤ 2 := by rw [hul]; exact ul_ln2 h65 hk
  -- the scripts of the others
  have oth : ∀ g, g < 11 → g ≠ c → pgL O g = pgL M g ∧ pgU O g = pgU M g ∧ (∀ p, pgA O g p = pgA M g p ∧ pgX O g p = pgX M g p ∧ pgY O g p = pgY M g p) ∧ ∀ i, 8 + 4 * g ≤ i → i ≤ 8 + 4 * g + 3 → O i = M i := fun g hg hgc => by
    rcases hs with ⟨-, h⟩ | ⟨-, h⟩
    · have e : ∀ i, 8 + 4 * g ≤ i → i ≤ 8 + 4 * g + 3 → O i = M i := fun i h1 h2 => h i (by omega) (by omega)
      unfold pgL pgU pgA pgX pgY
      rw [e _ (by omega) (by omega), e _ (by omega) (by omega), e _ (by omega) (by omega), e _ (by omega) (by omega)]
      exact ⟨rfl, rfl, fun p => ⟨rfl, rfl, rfl⟩, e⟩
    · exact h.o hg hgc
  have ulo : ∀ d, d ≠ c → ul O d = ul M d := fun d hd => ul_oth hk hd (r 63 (by omega)) w70 w71 w65
  have ulc := ul_add h65 hk (r 63 (by omega)) w70 w71 w65
  -- the script of the class itself
  have own : pgL O c - pgU O c = pgL M c - pgU M c ∧ WPf O c ∧ pgU O c = (ul O c).length ∧ (∀ p, p < pgU O c → pgX O c p = (ul O c).getD p 0 ∧ ∃ x, x < c ∧ pgX O c p = nI x) ∧ (∀ i, pgU O c + i < pgL O c → pgU M c + i < pgL M c ∧ pgA O c (pgU O c + i) = pgA M c (pgU M c + i) ∧ pgX O c (pgU O c + i) = pgX M c (pgU M c + i) ∧ pgY O c (pgU O c + i) = pgY M c (pgU M c + i)) := by
    have p4 := hP.2.2.2.1 c hc
    rcases hs with ⟨hy, h⟩ | ⟨hy, h⟩
    · have e : ∀ i, 8 + 4 * c ≤ i → i ≤ 8 + 4 * c + 3 → O i = M i := fun i h1 h2 => h i (by omega) (by omega)
      have eL : pgL O c = pgL M c := by unfold pgL; rw [e _ (by omega) (by omega)]
      have eU : pgU O c = pgU M c := by unfold pgU; rw [e _ (by omega) (by omega)]
      have eA : ∀ p, pgA O c p = pgA M c p ∧ pgX O c p = pgX M c p ∧ pgY O c p = pgY M c p := fun p => by
        unfold pgA pgX pgY
        rw [e _ (by omega) (by omega), e _ (by omega) (by omega), e _ (by omega) (by omega)]
        exact ⟨rfl, rfl, rfl⟩
      rw [if_pos hy, List.append_nil] at ulc
      rw [eL, eU, ulc]
      refine ⟨rfl, (hW.2.2.2 c (by omega)).same e, p4.1, fun p hp => ?_, fun i hi => ⟨hi, eA _⟩⟩
      rw [(eA p).2.1]
      exact p4.2.1 p hp
    · obtain ⟨g1, g2, g3, g4, g5, g6, g7⟩ := h.f (by omega) l3
      rw [if_neg hy] at ulc
      rw [g1, g2, ulc]
      refine ⟨by omega, wpf_ins hW (by omega) h (by omega) hU2, by simp [← hul], fun p hp => ?_, fun i hi => ?_⟩
      · by_cases q : p = pgU M c
        · rw [q, g6, hul]
          exact ⟨getD_r.symm, e, he, rfl⟩
        · rw [(g3 p (by omega)).2.1, getD_l (by omega)]
          exact p4.2.1 p (by omega)
      · obtain ⟨k1, k2, k3⟩ := g4 (pgU M c + i) (by omega) (by omega)
        rw [show pgU M c + 1 + i = pgU M c + i + 1 by omega]
        exact ⟨by omega, k1, k2, k3⟩
  obtain ⟨o1, o2, o3, o4, o5⟩ := own
  refine ⟨⟨?_, ?_, ?_, fun g hg => ?_⟩, ?_⟩
  · rw [w1 1 (by omega) (by omega)]; exact hW.1
  · rw [w1 3 (by omega) (by omega)]; exact hW.2.1
  · rw [w1 2 (by omega) (by omega)]; exact hW.2.2.1
  · by_cases q : g = c
    · rw [q]; exact o2
    · exact (hW.2.2.2 g hg).same (oth g hg q).2.2.2
  obtain ⟨p1, p2, p3, p4, p5, p6⟩ := hP
  refine ⟨?_, fun d hd => ?_, fun d q1 q2 => ?_, fun d hd => ?_, fun t ht => ?_, fun g hg i hi => ?_⟩
  · rw [h0, w1 1 (by omega) (by omega)]; exact p1
  · obtain ⟨k1, k2, k3, k4, k5, k6, k7⟩ := p2 d hd
    rw [r 68 (by omega), w1 2 (by omega) (by omega), r 69 (by omega), w1 3 (by omega) (by omega), r 64 (by omega), w1 4 (by omega) (by omega), r 67 (by omega), w65, w6, w70, w5]
    by_cases q : d = c
    · subst q
      rw [up_s, up_s, o1]
      refine ⟨k1, k2, k3, rfl, ?_, k6, fun i hi hik => ?_⟩
      · have hk2 : k = 0 ∨ k = 1 := by omega
        rcases hk2 with w | w
        · rw [w]; exact Or.inr (Or.inl rfl)
        · rw [w]; exact Or.inr (Or.inr rfl)
      · by_cases w : i = k
        · rw [w, up_s, up_s]
        · have hik := (nlt (by omega) (by omega)).mp hik
          rw [up_n (by omega), up_n (by omega)]
          exact k7 i hi (by rw [h65]; exact (nlt (by omega) (by omega)).mpr (by omega))
    · rw [up_n q, up_n q, (oth d (by omega) q).1, (oth d (by omega) q).2.1]
      refine ⟨k1, k2, k3, k4, k5, k6, fun i hi hik => ?_⟩
      rw [up_n (by omega), up_n (by omega)]
      exact k7 i hi hik
  · rw [hN] at q1
    rw [w1 3 (by omega) (by omega), w65, up_n (by omega), (oth d (by omega) (by omega)).1]
    exact p3 d q1 q2
  · rw [hN] at hd
    by_cases q : d = c
    · subst q
      rw [w1 2 (by omega) (by omega)]
      exact ⟨o3, o4, fun w => absurd h2c w⟩
    · rw [(oth d (by omega) q).2.1, ulo d q, w1 2 (by omega) (by omega), r 63 (by omega), w65, up_n q]
      refine ⟨(p4 d hd).1, fun p hp => ?_, (p4 d hd).2.2⟩
      rw [((oth d (by omega) q).2.2.1 p).2.1]
      exact (p4 d hd).2.1 p hp
  · rw [r 75 (by omega), (oth (8 + t) (by omega) (by omega)).1, (oth (8 + t) (by omega) (by omega)).2.1]
    exact p5 t ht
  · rw [r 72 (by omega), r 73 (by omega), r 74 (by omega)]
    by_cases q : g = c
    · subst q
      obtain ⟨j1, j2, j3, j4⟩ := o5 i hi
      rw [j2, j3, j4]
      exact p6 g hg i j1
    · obtain ⟨k1, k2, k3, k4⟩ := oth g hg q
      rw [k1, k2] at hi
      rw [k2, (k3 _).1, (k3 _).2.1, (k3 _).2.2]
      exact p6 g hg i hi
theorem two_inh {M : cs_Mem} (hW : WP M) (hP : PRel M) (h16 : M 62 16 = 0) (a0 a1 a2 : Int32) (h2 : a2 = 0 ∨ a2 = 1) : pre_Pr_addInterface M 1 a0 a1 a2 ∧ Two M (f_Pr_addInterface M 1 a0 a1 a2) (fun N => f_Mo_inherit N 62 a0 a1 a2) (fun N => pre_Mo_inherit N 62 a0 a1 a2) := by
  have e0 : M 62 0 = nI (pgN M) := hP.1.trans (wpN hW).1
  have hn8 := (wpN hW).2
  unfold pre_Pr_addInterface f_Pr_addInterface f_Pr_addInterface_J44
  simp only [cs_bd_eq]
  rcases decl_out M hW a0 with ⟨d1, d2, c, hc, rfl⟩ | ⟨d1, d2, -⟩
  · have p2 := hP.2.1 c (by omega)
    rw [d1, if_neg (by decide), nI_clamp (n := c) (by omega)]
    have v8 : vp_in (nI c) 8 := vp_in_nI (by omega) (by omega)
    by_cases b1 : M 2 c = 0
    · have b1' : M 68 c = 0 := by rw [p2.1]; exact b1
      rw [if_pos b1]
      rcases below_out M M a1 c (by omega) with ⟨-, k2, e, he, rfl⟩ | ⟨-, k2, k3⟩
      · have p2e := hP.2.1 e (by omega)
        have n1 : ¬ nI e < 0 := npos (by omega)
        have n2 : ¬ nI c ≤ nI e := fun q => absurd ((nle (by omega) (by omega)).mp q) (by omega)
        have v8e : vp_in (nI e) 8 := vp_in_nI (by omega) (by omega)
        rw [if_neg n1, if_neg n2, nI_clamp (n := e) (by omega)]
        by_cases b2 : M 2 e = 0
        · have b2' : M 68 e = 0 := by rw [p2e.1]; exact b2
          rw [if_pos b2]
          refine ⟨⟨fun q => absurd q (by decide), fun _ => ⟨v8, fun _ => ⟨fun q => absurd q n1, fun _ => ⟨fun q => absurd q n2, fun _ => ⟨v8e, fun _ => trivial, fun q => absurd b2 q⟩⟩⟩, fun q => absurd b1 q⟩⟩, Or.inl ⟨Or.inl rfl, rfl, ?_, ?_⟩⟩
          · unfold pre_Mo_inherit
            simp only [cs_bd_eq]
            rw [e0, d2, k2, nI_clamp (n := c) (by omega), nI_clamp (n := e) (by omega)]
            exact ⟨fun _ => ⟨fun _ => ⟨v8, fun _ => ⟨fun _ => ⟨v8e, fun _ => trivial, fun q => absurd b2' q⟩, fun _ => trivial⟩, fun _ => trivial⟩, fun _ => trivial⟩, fun _ => trivial⟩
          · unfold f_Mo_inherit f_Mo_inherit_J44
            simp only [cs_bd_eq]
            rw [h16, e0, d2, k2, nI_clamp (n := c) (by omega), nI_clamp (n := e) (by omega), if_pos rfl, if_pos rfl, if_pos b1', if_pos rfl, if_pos b2']
        · have b2' : ¬ M 68 e = 0 := by rw [p2e.1]; exact b2
          rw [if_neg b2]
          obtain ⟨k, hk, hk65⟩ : ∃ k, k ≤ 2 ∧ M 65 c = nI k := by
            rcases p2.2.2.2.2.1 with q | q | q
            · exact ⟨0, by omega, q⟩
            · exact ⟨1, by omega, q⟩
            · exact ⟨2, by omega, q⟩
          have hk6 : M 6 c = nI k := p2.2.2.2.1.symm.trans hk65
          have h70 : ∀ q, q < k → M 70 (2 * c + q) = M 5 (2 * c + q) := fun q hq => p2.2.2.2.2.2.2 q (by omega) (by rw [hk65]; exact (nlt (by omega) (by omega)).mpr hq)
          have ih := inhL (M := M) (x := nI e) (show c < 8 by omega) hk hk6 k 0 10 (by omega) (by omega)
          have ihp : pre_Pr_inherits M 1 (nI c) (nI e) := ih.1
          have ihf : f_Pr_inherits_L2 10 M 1 (nI c) (nI e) (nI 0) = f_Pr_inherits M 1 (nI c) (nI e) := rfl
          rw [ihf] at ih
          have mi : ∀ N : cs_Mem, N 62 = M 62 → N 68 = M 68 → N 65 = M 65 → f_Mo_inherit N 62 (nI c) (nI e) a2 = f_Mo_inherit_L57 10 N 62 (nI c) (nI e) a2 (nI k) (nI 0) ∧ (pre_Mo_inherit_L57 10 N 62 (nI c) (nI e) a2 (nI k) (nI 0) → pre_Mo_inherit N 62 (nI c) (nI e) a2) := fun N n1 n2 n3 => by
            have d2N : f_Mo_out N (nI c) (nI (pgN M)) = 0 := d2
            have k2N : f_Mo_out N (nI e) (nI c) = 0 := k2
            unfold f_Mo_inherit pre_Mo_inherit
            simp only [cs_bd_eq]
            rw [n1, n2, n3, h16, e0, d2N, k2N, nI_clamp (n := c) (by omega), nI_clamp (n := e) (by omega), hk65, if_pos rfl, if_pos rfl, if_pos b1', if_pos rfl, if_neg b2']
            exact ⟨rfl, fun w => ⟨fun _ => ⟨fun _ => ⟨v8, fun _ => ⟨fun _ => ⟨v8e, fun _ => trivial, fun _ => ⟨v8, w⟩⟩, fun _ => trivial⟩, fun _ => trivial⟩, fun _ => trivial⟩, fun _ => trivial⟩⟩
          have cpre : ∀ X : Prop, X → ((1 : Int32) = 0 → True) ∧ (¬ (1 : Int32) = 0 → vp_in (nI c) (cs_ln M 2) ∧ (M 2 c = 0 → (nI e < 0 → True) ∧ (¬ nI e < 0 → (nI c ≤ nI e → True) ∧ (¬ nI c ≤ nI e → vp_in (nI e) (cs_ln M 2) ∧ (M 2 e = 0 → True) ∧ (¬ M 2 e = 0 → pre_Pr_inherits M 1 (nI c) (nI e) ∧ X)))) ∧ (¬ M 2 c = 0 → True)) := fun X hX => ⟨fun q => absurd q (by decide), fun _ => ⟨v8, fun _ => ⟨fun q => absurd q n1, fun _ => ⟨fun q => absurd q n2, fun _ => ⟨v8e, fun q => absurd q b2, fun _ => ⟨ihp, hX⟩⟩⟩⟩, fun q => absurd b1 q⟩⟩
          rcases ih.2 with ⟨i1, q, q1, q2, q3⟩ | ⟨i1, i2⟩
          · rw [i1, if_neg (show ¬ (1 : Int32) = 0 by decide)]
            have mm := minhL (N := M) (x := nI e) (y := a2) (show c < 8 by omega) hk k 0 10 (by omega) (by omega)
            have mM := mi M rfl rfl rfl
            refine ⟨cpre _ ⟨fun q => absurd q (by decide), fun _ => trivial⟩, Or.inl ⟨Or.inl rfl, rfl, mM.2 mm.1, ?_⟩⟩
            show f_Mo_inherit M 62 (nI c) (nI e) a2 = _
            rw [mM.1, mm.2.1 ⟨q, q1, q2, by rw [h70 q q2]; exact q3⟩]
          · rw [i1, if_pos (show (0 : Int32) = 0 from rfl), hk6]
            by_cases z : k = 2
            · have c2 : ¬ nI k < 2 := fun q => absurd ((nlt (b := 2) (by omega) (by omega)).mp q) (by omega)
              have mm := minhL (N := M) (x := nI e) (y := a2) (show c < 8 by omega) hk k 0 10 (by omega) (by omega)
              have mM := mi M rfl rfl rfl
              rw [if_neg c2]
              refine ⟨cpre _ ⟨fun _ => ⟨v8, fun q => absurd q c2, fun _ => trivial⟩, fun q => absurd rfl q⟩, Or.inl ⟨Or.inr rfl, rfl, mM.2 mm.1, ?_⟩⟩
              show f_Mo_inherit M 62 (nI c) (nI e) a2 = _
              rw [mM.1, mm.2.2 (fun q q1 q2 => by rw [h70 q q2]; exact i2 q q1 q2), if_pos z]
            · have hk2 : k < 2 := by omega
              have c2 : nI k < 2 := (nlt (b := 2) (by omega) (by omega)).mpr hk2
              have ee : nI c * 2 + nI k = nI (2 * c + k) := by rw [show (2 : Int32) = nI 2 from rfl, nI_mul, nI_add]; exact congrArg nI (by omega)
              rw [if_pos c2, ee, nI_clamp (n := 2 * c + k) (by omega)]
              obtain ⟨A, hA⟩ : ∃ A, cs_up (cs_up M 5 (upd (M 5) (2 * c + k) (nI e))) 6 (upd ((cs_up M 5 (upd (M 5) (2 * c + k) (nI e))) 6) c ((cs_up M 5 (upd (M 5) (2 * c + k) (nI e))) 6 c + 1)) = A := ⟨_, rfl⟩
              have A6 : A 6 = upd (M 6) c (nI (k + 1)) := by rw [← hA, cs_up_self, cs_up_ne _ _ (by omega), hk6, nI_1]
              have A5 : A 5 = upd (M 5) (2 * c + k) (nI e) := by rw [← hA, cs_up_ne _ _ (by omega), cs_up_self]
              have Ai : ∀ i, i ≠ 5 → i ≠ 6 → A i = M i := fun i h5 h6 => by rw [← hA, cs_up_ne _ _ h6, cs_up_ne _ _ h5]
              rw [hA]
              obtain ⟨l1, l2, l3, l4, l5, l6⟩ := wpLU hW (show c < 11 by omega)
              rw [if_pos (show c < 8 by omega)] at l5 l6
              have hul := (hP.2.2.2.1 c hc).1
              have hU2 : pgU M c ≤ 2 := by rw [hul]; exact ul_ln2 hk65 hk2
              have cu := c_addUse (M := A) (f := c) (x := nI e) (by omega) (L := pgL M c) (U := pgU M c) (by rw [Ai _ (by omega) (by omega)]; exact l1) (by rw [Ai _ (by omega) (by omega)]; exact l2) l3 (by omega)
              have v16 : vp_in (nI (2 * c + k)) 16 := vp_in_nI (by omega) (by omega)
              -- what both come to
              have fin : ∀ B : cs_Mem, B 6 = A 6 → B 5 = A 5 → (∀ i, (i < 5 ∨ 51 < i) → B i = M i) → ((a2 = 0 ∧ ∀ i, 8 ≤ i → i < 52 → B i = M i) ∨ (¬ a2 = 0 ∧ InsP M B c (pgL M c) (pgU M c) (nI e))) → Two M (nI (k + 1), B) (fun N => f_Mo_inherit N 62 (nI c) (nI e) a2) (fun N => pre_Mo_inherit N 62 (nI c) (nI e) a2) := by
                intro B B6 B5 Bi Bs
                right
                dsimp only
                obtain ⟨F, hF⟩ : ∃ F, f_Ex_forget B 55 = F := ⟨_, rfl⟩
                have f55 : F 55 = upd (upd (M 55) 4 0) 8 0 := by rw [← hF, fg55, Bi 55 (by omega)]
                have fu : ∀ i, i ≠ 55 → F i = B i := fun i hi => by rw [← hF]; exact fr_Ex_forget hi
                have fi : ∀ i, 52 ≤ i → i ≠ 55 → F i = M i := fun i h1 h2 => by rw [fu i h2, Bi i (by omega)]
                have mF := mi F (fi 62 (by omega) (by omega)) (fi 68 (by omega) (by omega)) (fi 65 (by omega) (by omega))
                have mm := minhL (N := F) (x := nI e) (y := a2) (show c < 8 by omega) hk k 0 10 (by omega) (by omega)
                have mr := mm.2.2 (fun q q1 q2 => by rw [fi 70 (by omega) (by omega), h70 q q2]; exact i2 q q1 q2)
                rw [if_neg z, nar01 h2] at mr
                rw [hF, mF.1, mr]
                refine ⟨nI_m1 (by omega), nI_m2 (by omega), mF.2 mm.1, rfl, ?_⟩
                dsimp only
                obtain ⟨w70, w71, w65, w62, wi⟩ := iW_r F (2 * c + k) c (nI e) a2
                generalize iW F (2 * c + k) c (nI e) a2 = O at w70 w71 w65 w62 wi
                rw [fi 70 (by omega) (by omega)] at w70
                rw [fi 71 (by omega) (by omega)] at w71
                rw [fi 65 (by omega) (by omega), hk65, nI_1] at w65
                rw [fi 62 (by omega) (by omega)] at w62
                have OB : ∀ i, i < 52 → O i = B i := fun i hi => by rw [wi i (by omega) (by omega) (by omega) (by omega), fu i (by omega)]
                have r := prel_inh (M := M) (O := O) hW hP hc he b1 hk65 hk2 (by rw [w62, up_n (by omega)]) (fun i hi => by rw [wi i (by omega) (by omega) (by omega) (by omega), fi i (by omega) (by omega)]) w70 w71 w65 (by rw [OB 5 (by omega), B5, A5]) (by rw [OB 6 (by omega), B6, A6]) (fun i i1 i2 => by rw [OB i (by omega), Bi i (by omega)]) (by
                  rcases Bs with ⟨g1, g2⟩ | ⟨g1, g2⟩
                  · exact Or.inl ⟨g1, fun i i1 i2 => by rw [OB i i2, g2 i i1 i2]⟩
                  · obtain ⟨j1, j2, j3, j4, j5⟩ := g2
                    exact Or.inr ⟨g1, by rw [OB _ (by omega)]; exact j1, by rw [OB _ (by omega)]; exact j2, by rw [OB _ (by omega)]; exact j3, by rw [OB _ (by omega)]; exact j4, fun i i1 i2 i3 => by rw [OB i i2]; exact j5 i i1 i2 i3⟩)
                exact ⟨r.1, r.2, fun i i1 i2 i3 i4 => by rw [wi i (by omega) (by omega) (by omega) i3, fi i i1 i2], by rw [wi 55 (by omega) (by omega) (by omega) (by omega), f55], by rw [w62, up_s], fun q q1 q2 => by rw [w62, up_n q2]⟩
              refine ⟨cpre _ ⟨fun _ => ⟨v8, fun _ => ⟨v8, v16, v8, v8, ?_⟩, fun q => absurd c2 q⟩, fun q => absurd rfl q⟩, ?_⟩
              · exact ⟨fun _ => ⟨v8, trivial⟩, fun _ => ⟨vp_in_nI (by omega) (by omega), cu.1, v8, trivial⟩⟩
              · obtain ⟨j1, j2, j3, j4, j5⟩ := cu.2
                by_cases y0 : a2 = 0
                · rw [if_pos y0, A6, up_s]
                  exact fin A rfl rfl (fun i hi => Ai i (by omega) (by omega)) (Or.inl ⟨y0, fun i i1 i2 => Ai i (by omega) (by omega)⟩)
                · rw [if_neg y0, j5 6 (by omega), A6, up_s]
                  refine fin _ (j5 6 (by omega)) (j5 5 (by omega)) (fun i hi => by rw [j5 i (by omega), Ai i (by omega) (by omega)]) (Or.inr ⟨y0, ?_, ?_, ?_, ?_, fun i i1 i2 i3 => ?_⟩)
                  · rw [j1, Ai _ (by omega) (by omega)]
                  · rw [j2, Ai _ (by omega) (by omega)]
                  · rw [j3, Ai _ (by omega) (by omega)]
                  · rw [j4, Ai _ (by omega) (by omega)]
                  · rw [j5 i i3, Ai i (by omega) (by omega)]
      · -- the interface's number isn't below the class's
        have hcl : (if a1 < 0 then ((-1 : Int32), M) else if nI c ≤ a1 then ((-1 : Int32), M) else if M 2 a1.toNatClampNeg = 0 then ((-1 : Int32), M) else if f_Pr_inherits M 1 (nI c) a1 = 0 then (if M 6 c < 2 then (if a2 = 0 then ((cs_up (cs_up M 5 (upd (M 5) (nI c * 2 + M 6 c).toNatClampNeg a1)) 6 (upd ((cs_up M 5 (upd (M 5) (nI c * 2 + M 6 c).toNatClampNeg a1)) 6) c ((cs_up M 5 (upd (M 5) (nI c * 2 + M 6 c).toNatClampNeg a1)) 6 c + 1))) 6 c, cs_up (cs_up M 5 (upd (M 5) (nI c * 2 + M 6 c).toNatClampNeg a1)) 6 (upd ((cs_up M 5 (upd (M 5) (nI c * 2 + M 6 c).toNatClampNeg a1)) 6) c ((cs_up M 5 (upd (M 5) (nI c * 2 + M 6 c).toNatClampNeg a1)) 6 c + 1))) else (f_Sc_addUseAhead (cs_up (cs_up M 5 (upd (M 5) (nI c * 2 + M 6 c).toNatClampNeg a1)) 6 (upd ((cs_up M 5 (upd (M 5) (nI c * 2 + M 6 c).toNatClampNeg a1)) 6) c ((cs_up M 5 (upd (M 5) (nI c * 2 + M 6 c).toNatClampNeg a1)) 6 c + 1))) (8 + 4 * c) a1 6 c, f_Sc_addUseAhead (cs_up (cs_up M 5 (upd (M 5) (nI c * 2 + M 6 c).toNatClampNeg a1)) 6 (upd ((cs_up M 5 (upd (M 5) (nI c * 2 + M 6 c).toNatClampNeg a1)) 6) c ((cs_up M 5 (upd (M 5) (nI c * 2 + M 6 c).toNatClampNeg a1)) 6 c + 1))) (8 + 4 * c) a1)) else ((-2 : Int32), M)) else ((-1 : Int32), M)) = ((-1 : Int32), M) := by
          by_cases q : a1 < 0
          · rw [if_pos q]
          · rw [if_neg q]
            obtain ⟨n, hn, rfl⟩ := exn q
            rw [if_pos ((nI_leI (by omega) hn).mpr (by
              by_cases w : n < c
              · exact absurd ⟨n, w, rfl⟩ k3
              · omega))]
        rw [hcl]
        refine ⟨⟨fun q => absurd q (by decide), fun _ => ⟨v8, fun _ => ⟨fun _ => trivial, fun q => ⟨fun _ => trivial, fun w => ?_⟩⟩, fun q => absurd b1 q⟩⟩, Or.inl ⟨Or.inl rfl, rfl, ?_, ?_⟩⟩
        · obtain ⟨n, hn, rfl⟩ := exn q
          exact absurd ⟨n, by
            by_cases v : n < c
            · exact v
            · exact absurd ((nI_leI (by omega) hn).mpr (by omega)) w, rfl⟩ k3
        · unfold pre_Mo_inherit
          simp only [cs_bd_eq]
          rw [e0, d2, k2, nI_clamp (n := c) (by omega)]
          exact ⟨fun _ => ⟨fun _ => ⟨v8, fun _ => ⟨fun q => absurd q (by decide), fun _ => trivial⟩, fun _ => trivial⟩, fun _ => trivial⟩, fun _ => trivial⟩
        · unfold f_Mo_inherit f_Mo_inherit_J44
          simp only [cs_bd_eq]
          rw [h16, e0, d2, k2, nI_clamp (n := c) (by omega), if_pos rfl, if_pos rfl, if_pos b1', if_neg (by decide)]
    · have b1' : ¬ M 68 c = 0 := by rw [p2.1]; exact b1
      rw [if_neg b1]
      refine ⟨⟨fun q => absurd q (by decide), fun _ => ⟨v8, fun q => absurd q b1, fun _ => trivial⟩⟩, Or.inl ⟨Or.inl rfl, rfl, ?_, ?_⟩⟩
      · unfold pre_Mo_inherit
        simp only [cs_bd_eq]
        rw [e0, d2, nI_clamp (n := c) (by omega)]
        exact ⟨fun _ => ⟨fun _ => ⟨v8, fun q => absurd q b1', fun _ => trivial⟩, fun _ => trivial⟩, fun _ => trivial⟩
      · unfold f_Mo_inherit f_Mo_inherit_J44
        simp only [cs_bd_eq]
        rw [h16, e0, d2, nI_clamp (n := c) (by omega), if_pos rfl, if_pos rfl, if_neg b1']
  · rw [d1, if_pos rfl]
    refine ⟨⟨fun _ => trivial, fun q => absurd rfl q⟩, Or.inl ⟨Or.inl rfl, rfl, ?_, ?_⟩⟩
    · unfold pre_Mo_inherit
      simp only [cs_bd_eq]
      rw [e0, d2]
      exact ⟨fun _ => ⟨fun q => absurd q (by decide), fun _ => trivial⟩, fun _ => trivial⟩
    · unfold f_Mo_inherit f_Mo_inherit_J44
      simp only [cs_bd_eq]
      rw [h16, e0, d2, if_pos rfl, if_neg (by decide)]
