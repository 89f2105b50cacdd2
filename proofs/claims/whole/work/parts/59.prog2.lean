/-! scripts that grow: what becomes of WP and PRel -/
def AppP (M N : cs_Mem) (f L : Nat) (a x y : Int32) : Prop := N (8 + 4 * f) = upd (M (8 + 4 * f)) 5 (nI (L + 1)) ∧ N (8 + 4 * f + 1) = upd (M (8 + 4 * f + 1)) L a ∧ N (8 + 4 * f + 2) = upd (M (8 + 4 * f + 2)) L x ∧ N (8 + 4 * f + 3) = upd (M (8 + 4 * f + 3)) L y ∧ ∀ i, i < 52 → (i < 8 + 4 * f ∨ 8 + 4 * f + 3 < i) → N i = M i
def InsP (M N : cs_Mem) (f L U : Nat) (x : Int32) : Prop := N (8 + 4 * f) = upd (upd (M (8 + 4 * f)) 5 (nI (L + 1))) 4 (nI (U + 1)) ∧ N (8 + 4 * f + 1) = sh (M (8 + 4 * f + 1)) U L 0 ∧ N (8 + 4 * f + 2) = sh (M (8 + 4 * f + 2)) U L x ∧ N (8 + 4 * f + 3) = sh (M (8 + 4 * f + 3)) U L 0 ∧ ∀ i, 8 ≤ i → i < 52 → (i < 8 + 4 * f ∨ 8 + 4 * f + 3 < i) → N i = M i
theorem App.p {M N O : cs_Mem} {f L : Nat} {a x y : Int32} (hf : f < 11) (h : App M N f L a x y) (e : PE N O) : AppP M O f L a x y := by
  obtain ⟨h1, h2, h3, h4, h5⟩ := h
  exact ⟨by rw [e _ (by omega)]; exact h1, by rw [e _ (by omega)]; exact h2, by rw [e _ (by omega)]; exact h3, by rw [e _ (by omega)]; exact h4, fun i hi w => by rw [e _ hi]; exact h5 i w⟩
theorem sh_lt {r : Nat → Int32} {U L p : Nat} {x : Int32} (h : p < U) : sh r U L x p = r p := by
  unfold sh
  rw [up_n (by omega)]
  unfold va_cpy
  rw [if_neg (by omega)]
theorem sh_eq {r : Nat → Int32} {U L : Nat} {x : Int32} : sh r U L x U = x := by
  unfold sh
  rw [up_s]
theorem sh_gt {r : Nat → Int32} {U L p : Nat} {x : Int32} (h1 : U ≤ p) (h2 : p < L) : sh r U L x (p + 1) = r p := by
  unfold sh
  rw [up_n (by omega)]
  unfold va_cpy
  rw [if_pos (by omega)]
  exact congrArg r (by omega)
theorem WPf.same {M N : cs_Mem} {f : Nat} (h : WPf M f) (e : ∀ i, 8 + 4 * f ≤ i → i ≤ 8 + 4 * f + 3 → N i = M i) : WPf N f := by
  have e0 := e (8 + 4 * f) (by omega) (by omega)
  have e1 := e (8 + 4 * f + 1) (by omega) (by omega)
  have e2 := e (8 + 4 * f + 2) (by omega) (by omega)
  have e3 := e (8 + 4 * f + 3) (by omega) (by omega)
  unfold WPf pgL pgU pgA pgX pgY at h ⊢
  rw [e0, e1, e2, e3]
  exact h
theorem AppP.f {M N : cs_Mem} {f L : Nat} {a x y : Int32} (h : AppP M N f L a x y) (hL : L < 100) : pgL N f = L + 1 ∧ pgU N f = pgU M f ∧ (∀ p, p ≠ L → pgA N f p = pgA M f p ∧ pgX N f p = pgX M f p ∧ pgY N f p = pgY M f p) ∧ pgA N f L = a ∧ pgX N f L = x ∧ pgY N f L = y := by
  obtain ⟨h1, h2, h3, h4, h5⟩ := h
  unfold pgL pgU pgA pgX pgY
  rw [h1, h2, h3, h4, up_s, up_s, up_s, up_s, up_n (by omega), nI_clamp (by omega)]
  exact ⟨rfl, rfl, fun p hp => ⟨up_n hp, up_n hp, up_n hp⟩, rfl, rfl, rfl⟩
theorem AppP.o {M N : cs_Mem} {f g L : Nat} {a x y : Int32} (h : AppP M N f L a x y) (hg : g < 11) (hgf : g ≠ f) : pgL N g = pgL M g ∧ pgU N g = pgU M g ∧ (∀ p, pgA N g p = pgA M g p ∧ pgX N g p = pgX M g p ∧ pgY N g p = pgY M g p) ∧ ∀ i, 8 + 4 * g ≤ i → i ≤ 8 + 4 * g + 3 → N i = M i := by
  have e : ∀ i, 8 + 4 * g ≤ i → i ≤ 8 + 4 * g + 3 → N i = M i := fun i h1 h2 => h.2.2.2.2 i (by omega) (by omega)
  unfold pgL pgU pgA pgX pgY
  rw [e _ (by omega) (by omega), e _ (by omega) (by omega), e _ (by omega) (by omega), e _ (by omega) (by omega)]
  exact ⟨rfl, rfl, fun p => ⟨rfl, rfl, rfl⟩, e⟩
theorem InsP.f {M N : cs_Mem} {f L U : Nat} {x : Int32} (h : InsP M N f L U x) (hL : L < 100) (hU : U ≤ L) : pgL N f = L + 1 ∧ pgU N f = U + 1 ∧ (∀ p, p < U → pgA N f p = pgA M f p ∧ pgX N f p = pgX M f p ∧ pgY N f p = pgY M f p) ∧ (∀ p, U ≤ p → p < L → pgA N f (p + 1) = pgA M f p ∧ pgX N f (p + 1) = pgX M f p ∧ pgY N f (p + 1) = pgY M f p) ∧ pgA N f U = 0 ∧ pgX N f U = x ∧ pgY N f U = 0 := by
  obtain ⟨h1, h2, h3, h4, h5⟩ := h
  unfold pgL pgU pgA pgX pgY
  rw [h1, h2, h3, h4, up_s, up_n (by omega), up_s, nI_clamp (by omega), nI_clamp (by omega), sh_eq, sh_eq, sh_eq]
  exact ⟨rfl, rfl, fun p hp => ⟨sh_lt hp, sh_lt hp, sh_lt hp⟩, fun p q w => ⟨sh_gt q w, sh_gt q w, sh_gt q w⟩, rfl, rfl, rfl⟩
theorem InsP.o {M N : cs_Mem} {f g L U : Nat} {x : Int32} (h : InsP M N f L U x) (hg : g < 11) (hgf : g ≠ f) : pgL N g = pgL M g ∧ pgU N g = pgU M g ∧ (∀ p, pgA N g p = pgA M g p ∧ pgX N g p = pgX M g p ∧ pgY N g p = pgY M g p) ∧ ∀ i, 8 + 4 * g ≤ i → i ≤ 8 + 4 * g + 3 → N i = M i := by
  have e : ∀ i, 8 + 4 * g ≤ i → i ≤ 8 + 4 * g + 3 → N i = M i := fun i h1 h2 => h.2.2.2.2 i (by omega) (by omega) (by omega)
  unfold pgL pgU pgA pgX pgY
  rw [e _ (by omega) (by omega), e _ (by omega) (by omega), e _ (by omega) (by omega), e _ (by omega) (by omega)]
  exact ⟨rfl, rfl, fun p => ⟨rfl, rfl, rfl⟩, e⟩
theorem wpf_app {M N : cs_Mem} {f n : Nat} {x y : Int32} (hW : WP M) (hf : f < 11) (h : AppP M N f (pgL M f) (nI n) x y) (ha : AOK n x y) (h8 : 8 ≤ f → n = 0 ∨ n = 5 ∨ n = 6) (hc : pgL M f < pgU M f + (if f < 8 then 5 else 3)) (hU : 8 ≤ f → pgU M f = 0) : WPf N f := by
  obtain ⟨l1, l2, l3, l4, l5, l6⟩ := wpLU hW hf
  have hL : pgL M f ≤ 8 := by split at l6 <;> omega
  obtain ⟨g1, g2, g3, g4, g5, g6⟩ := h.f (by omega)
  have hlt : pgL M f < (if f < 8 then 8 else 3) := by
    by_cases g : f < 8
    · rw [if_pos g] at hc ⊢; omega
    · rw [if_neg g] at hc ⊢
      have := hU (by omega)
      omega
  refine ⟨⟨pgL M f + 1, pgU M f, ?_, ?_, by omega, l4, by omega, by omega⟩, ?_, fun p hp => ?_⟩
  · rw [h.1, up_s]
  · rw [h.1, up_n (by omega), l2]
  · rw [h.1, up_n (by omega)]; exact (hW.2.2.2 f hf).2.1
  · rw [g1] at hp
    rw [g2]
    by_cases q : p = pgL M f
    · subst q
      rw [g4, g5, g6]
      exact ⟨n, rfl, ha.1, ha.2.1, ha.2.2.1, ha.2.2.2, fun w => by omega, h8⟩
    · rw [(g3 p q).1, (g3 p q).2.1, (g3 p q).2.2]
      exact (hW.2.2.2 f hf).2.2 p (by omega)
theorem wpf_ins {M N : cs_Mem} {f n : Nat} (hW : WP M) (hf : f < 8) (h : InsP M N f (pgL M f) (pgU M f) (nI n)) (hn : n < 8) (hU : pgU M f ≤ 2) : WPf N f := by
  obtain ⟨l1, l2, l3, l4, l5, l6⟩ := wpLU hW (show f < 11 by omega)
  rw [if_pos hf] at l5 l6
  obtain ⟨g1, g2, g3, g4, g5, g6, g7⟩ := h.f (by omega) l3
  refine ⟨⟨pgL M f + 1, pgU M f + 1, ?_, ?_, by omega, by omega, ?_, ?_⟩, ?_, fun p hp => ?_⟩
  · rw [h.1, up_n (by omega), up_s]
  · rw [h.1, up_s]
  · rw [if_pos hf]; omega
  · rw [if_pos hf]; omega
  · rw [h.1, up_n (by omega), up_n (by omega)]; exact (hW.2.2.2 f (by omega)).2.1
  · rw [g1] at hp
    rw [g2]
    rcases Nat.lt_trichotomy p (pgU M f) with q | q | q
    · rw [(g3 p q).1, (g3 p q).2.1, (g3 p q).2.2]
      obtain ⟨a, a1, a2, a3, a4, a5, a6, a7⟩ := (hW.2.2.2 f (by omega)).2.2 p (by omega)
      exact ⟨a, a1, a2, a3, a4, a5, fun _ => a6 q, a7⟩
    · subst q
      rw [g5, g6, g7]
      exact ⟨0, rfl, by omega, fun _ => ⟨n, hn, rfl⟩, fun w => by omega, fun w => by omega, fun _ => rfl, fun _ => Or.inl rfl⟩
    · obtain ⟨r, rfl⟩ : ∃ r, p = r + 1 := ⟨p - 1, by omega⟩
      obtain ⟨k1, k2, k3⟩ := g4 r (by omega) (by omega)
      rw [k1, k2, k3]
      obtain ⟨a, a1, a2, a3, a4, a5, a6, a7⟩ := (hW.2.2.2 f (by omega)).2.2 r (by omega)
      exact ⟨a, a1, a2, a3, a4, a5, fun w => a6 (by omega), a7⟩
theorem wp_app {M N : cs_Mem} {f n : Nat} {x y : Int32} (hW : WP M) (hf : f < 11) (h : AppP M N f (pgL M f) (nI n) x y) (ha : AOK n x y) (h8 : 8 ≤ f → n = 0 ∨ n = 5 ∨ n = 6) (hc : pgL M f < pgU M f + (if f < 8 then 5 else 3)) (hU : 8 ≤ f → pgU M f = 0) : WP N := by
  have e := h.2.2.2.2
  refine ⟨?_, ?_, ?_, fun g hg => ?_⟩
  · rw [e 1 (by omega) (by omega)]; exact hW.1
  · rw [e 3 (by omega) (by omega)]; exact hW.2.1
  · rw [e 2 (by omega) (by omega)]; exact hW.2.2.1
  · by_cases q : g = f
    · rw [q]; exact wpf_app hW hf h ha h8 hc hU
    · exact (hW.2.2.2 g hg).same (h.o hg q).2.2.2
theorem prel_app {M N : cs_Mem} {f : Nat} {a x y : Int32} (hW : WP M) (hP : PRel M) (hf : f < 11) (hfn : f < 8 → f < pgN M) (h : AppP M N f (pgL M f) a x y) (h0 : N 62 0 = M 62 0) (r : ∀ i, i = 63 ∨ i = 64 ∨ i = 65 ∨ i = 68 ∨ i = 69 ∨ i = 70 ∨ i = 71 → N i = M i) (h67 : ∀ c, c < 8 → N 67 c = nI (pgL N c - pgU N c)) (h75 : ∀ t, t < 3 → N 75 t = nI (pgL N (8 + t)))
    (h72 : ∀ g i, g < 11 → i < 5 → ¬ (g = f ∧ i = pgL M f - pgU M f) → N 72 (5 * g + i) = M 72 (5 * g + i) ∧ N 73 (5 * g + i) = M 73 (5 * g + i) ∧ (g < 8 → N 74 (5 * g + i) = M 74 (5 * g + i)))
    (hz : N 72 (5 * f + (pgL M f - pgU M f)) = a ∧ N 73 (5 * f + (pgL M f - pgU M f)) = x ∧ (f < 8 → N 74 (5 * f + (pgL M f - pgU M f)) = y)) : PRel N := by
  have e := h.2.2.2.2
  obtain ⟨l1, l2, l3, l4, l5, l6⟩ := wpLU hW hf
  have hL : pgL M f ≤ 8 := by split at l6 <;> omega
  obtain ⟨g1, g2, g3, g4, g5, g6⟩ := h.f (by omega)
  have hN : pgN N = pgN M := by unfold pgN; rw [e 1 (by omega) (by omega)]
  have hU : ∀ g, g < 11 → pgU N g = pgU M g := fun g hg => by
    by_cases q : g = f
    · rw [q]; exact g2
    · exact (h.o hg q).2.1
  have eul : ∀ c, ul N c = ul M c := fun c => by unfold ul; rw [r 63 (by omega), r 65 (by omega), r 70 (by omega), r 71 (by omega)]
  have hn8 := (wpN hW).2
  obtain ⟨p1, p2, p3, p4, p5, p6⟩ := hP
  refine ⟨?_, fun c hc => ?_, fun c q1 q2 => ?_, fun c hc => ?_, fun t ht => ?_, fun g hg i hi => ?_⟩
  · rw [h0, e 1 (by omega) (by omega)]; exact p1
  · obtain ⟨k1, k2, k3, k4, k5, k6, k7⟩ := p2 c hc
    rw [r 68 (by omega), e 2 (by omega) (by omega), r 69 (by omega), e 3 (by omega) (by omega), r 64 (by omega), e 4 (by omega) (by omega), r 65 (by omega), e 6 (by omega) (by omega), r 70 (by omega), e 5 (by omega) (by omega)]
    exact ⟨k1, k2, k3, k4, k5, h67 c hc, k7⟩
  · rw [hN] at q1
    have := p3 c q1 q2
    rw [e 3 (by omega) (by omega), r 65 (by omega)]
    by_cases q : c = f
    · have := hfn (by omega)
      omega
    · rw [(h.o (show c < 11 by omega) q).1]
      exact this
  · rw [hN] at hc
    rw [hU c (by omega), eul, e 2 (by omega) (by omega), r 63 (by omega), r 65 (by omega)]
    refine ⟨(p4 c hc).1, fun p hp => ?_, (p4 c hc).2.2⟩
    have ex : pgX N c p = pgX M c p := by
      by_cases q : c = f
      · subst q
        exact (g3 p (by omega)).2.1
      · exact ((h.o (show c < 11 by omega) q).2.2.1 p).2.1
    rw [ex]
    exact (p4 c hc).2.1 p hp
  · rw [hU _ (by omega)]
    exact ⟨h75 t ht, (p5 t ht).2⟩
  · rw [hU g hg] at hi ⊢
    by_cases q : g = f
    · subst q
      rw [g1] at hi
      by_cases w : pgU M g + i = pgL M g
      · have ei : i = pgL M g - pgU M g := by omega
        rw [w, g4, g5, g6, ei]
        exact ⟨hz.1.symm, hz.2.1.symm, fun v => (hz.2.2 v).symm⟩
      · obtain ⟨k1, k2, k3⟩ := g3 (pgU M g + i) w
        have hi5 : i < 5 := by split at l5 <;> omega
        obtain ⟨k4, k5, k6⟩ := h72 g i hg hi5 (by omega)
        rw [k1, k2, k3, k4, k5]
        refine ⟨(p6 g hg i (by omega)).1, (p6 g hg i (by omega)).2.1, fun v => ?_⟩
        rw [k6 v]
        exact (p6 g hg i (by omega)).2.2 v
    · obtain ⟨o1, o2, o3, o4⟩ := h.o hg q
      rw [o1] at hi
      obtain ⟨-, -, -, -, m5, -⟩ := wpLU hW hg
      have hi5 : i < 5 := by split at m5 <;> omega
      obtain ⟨k1, k2, k3⟩ := o3 (pgU M g + i)
      obtain ⟨k4, k5, k6⟩ := h72 g i hg hi5 (by omega)
      rw [k1, k2, k3, k4, k5]
      refine ⟨(p6 g hg i hi).1, (p6 g hg i hi).2.1, fun v => ?_⟩
      rw [k6 v]
      exact (p6 g hg i hi).2.2 v
