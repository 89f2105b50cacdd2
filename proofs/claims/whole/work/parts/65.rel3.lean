/-! explore, outcome, count, and the start -/
theorem r_exp {M N : cs_Mem} {ts : List Nat} (hT : RelT M ts) (kx : KX M N) (h8 : N 55 8 = 1) (pw : Pw (cs_ln N 61)) (kn : KN N (exR (pm M))) : pre_Mo_explore N 62 ∧ (f_Mo_explore N 62).1 = N 55 9 ∧ RelC (f_Mo_explore N 62).2 := by
  have hW := hT.1
  have hQ : PE (pm M) N := fun i hi => (kx.pe i hi).trans (pm_pe M i hi)
  have hWQ : WP (pm M) := (pm_pe M).sym.wp hW
  have k62 : ∀ i, 61 < i → i ≠ 1000 → N i = M i := fun i h1 h2 => kx i (by omega) (by omega) (by omega) (by omega) (by omega) (by omega) h2
  have hPN : PRel N := prel_of kx.pe (fun i i1 i2 => k62 i (by omega) (by omega)) (by rw [k62 62 (by omega) (by omega)]) hW hT.2.1
  have m := m_explore hWQ hQ hPN
  generalize hres : exR (pm M) = res at kn m
  generalize f_Mo_explore N 62 = r at m
  obtain ⟨r1, R⟩ := r
  obtain ⟨p, ke, fm⟩ := m
  dsimp only at ke fm ⊢
  have pe : PE M R := fun i hi => (ke.pe i hi).trans (kx.pe i hi)
  have hPR := ke.prel (kx.pe.wp hW) hPN
  have e55 : R 55 = N 55 := ke.1 55 (by omega)
  have e61 : R 61 = N 61 := ke.1 61 (by omega)
  have e1000 : R 1000 = N 1000 := ke.1 1000 (by omega)
  have fin : XP R → RelC R := fun hx => ⟨ts, hT.of pe hPR (by rw [ke.1 53 (by omega)]; exact kx 53 (by omega) (by omega) (by omega) (by omega) (by omega) (by omega) (by omega)) (by rw [ke.1 54 (by omega)]; exact kx 54 (by omega) (by omega) (by omega) (by omega) (by omega) (by omega) (by omega)) (by rw [ke.2 15 (by omega) (by omega) (by omega) (by omega) (by omega), k62 62 (by omega) (by omega)]) (by rw [ke.2 16 (by omega) (by omega) (by omega) (by omega) (by omega), k62 62 (by omega) (by omega)]) (by rw [ke.1 76 (by omega), k62 76 (by omega) (by omega)]) hx⟩
  have hpm : exR (pm R) = res := by rw [pm_eq pe]; exact hres
  have lnR : cs_ln R 61 = cs_ln N 61 := ln_eq e1000
  have knR := KN.congr e55 e61 e1000 res kn
  refine ⟨p, ?_, fin ?_⟩
  · cases res with
    | none => exact fm.1.trans kn.1.symm
    | some v =>
      obtain ⟨l, o, s⟩ := v
      exact fm.1.trans kn.1.symm
  · cases res with
    | none =>
      obtain ⟨f1, f2, f3, f4, f5⟩ := fm
      obtain ⟨k1, k2, k3, k4⟩ := kn
      refine ⟨by rw [e55, k3, f3], by rw [e55, k4, f4], by rw [lnR]; exact pw, by rw [e55, h8]; exact Or.inr rfl, ⟨0, by rw [e55, k2]; rfl, by omega, by omega, Or.inl ⟨f5, rfl⟩, fun i hi => by omega⟩, fun _ => by rw [hpm]; exact knR⟩
    | some v =>
      obtain ⟨l, o, s⟩ := v
      obtain ⟨f1, f2, f3, f4, f5, f6⟩ := fm
      obtain ⟨k1, k2, k3, k4, k5, k6, k7⟩ := kn
      refine ⟨by rw [e55, k3, f3], by rw [e55, k4, f4], by rw [lnR]; exact pw, by rw [e55, h8]; exact Or.inr rfl, ⟨l.length, by rw [e55, k2], k7, by rw [lnR]; exact k6, Or.inr ⟨f5, f2⟩, fun i hi => by rw [e61, k5 i hi, f6 i hi]⟩, fun _ => by rw [hpm]; exact knR⟩
theorem r_explore (M : cs_Mem) (h : RelC M) : (cs_ln M 61 ≤ 4096) ∧ (pre_X_explore M) ∧ (pre_Mo_explore (f_X_explore M).2 62 ) ∧ ((f_X_explore M).1 = (f_Mo_explore (f_X_explore M).2 62 ).1) ∧ (RelC ((f_Mo_explore (f_X_explore M).2 62 ).2)) := by
  obtain ⟨ts, hT⟩ := h
  obtain ⟨x1, x2, x3, x4, x5, x6⟩ := hT.2.2.2.2.2.2.2.2
  have hWQ : WP (pm M) := (pm_pe M).sym.wp hT.1
  refine ⟨x3.le.2, ?_⟩
  unfold pre_X_explore f_X_explore f_Ex_isKnown pre_Ex_isKnown f_Ex_answer
  simp only [cs_bd_eq]
  rcases x4 with e | e
  · have g := c_go hWQ (pm_pe M) x3
    obtain ⟨N, hN⟩ : ∃ N, f_Ex_goThrough M = N := ⟨_, rfl⟩
    rw [hN] at g
    rw [e, hN, if_pos (show (0 : Int32) = 0 from rfl)]
    obtain ⟨g1, g2, g3, g4, g5⟩ := g
    have r := r_exp hT g2 g3 g4 g5
    exact ⟨⟨⟨Or.inl rfl, trivial⟩, fun _ => ⟨g1, trivial⟩, fun _ => trivial⟩, r.1, r.2.1.symm, r.2.2⟩
  · rw [e, if_neg (show ¬ (1 : Int32) = 0 by decide)]
    have r := r_exp hT (KX.refl M) e x3 (x6 e)
    exact ⟨⟨⟨Or.inr rfl, trivial⟩, fun q => absurd q (by decide), fun _ => trivial⟩, r.1, r.2.1.symm, r.2.2⟩
theorem r_outcome (M : cs_Mem) (a0 : Int32) (h : RelC M) : (pre_X_outcome M 0 a0) ∧ (pre_Mo_outcome M 62 a0) ∧ (f_X_outcome M 0 a0 = (f_Mo_outcome M 62 a0)) ∧ (RelC M) := by
  have hR := h
  obtain ⟨ts, hT⟩ := h
  obtain ⟨x1, x2, x3, x4, ⟨n, n1, n2, n3, n4, n5⟩, x6⟩ := hT.2.2.2.2.2.2.2.2
  have hb := x3.le.2
  unfold pre_X_outcome f_X_outcome pre_Mo_outcome f_Mo_outcome f_Ex_foundCount f_Ex_foundAt pre_Ex_foundAt
  simp only [cs_bd_eq]
  rw [n1]
  rcases below_out M M a0 n (by omega) with ⟨-, d2, i, hi, rfl⟩ | ⟨-, d2, d3⟩
  · have m1 : ¬ nI i < 0 := npos (by omega)
    have m2 : ¬ nI n ≤ nI i := fun q => absurd ((nle (by omega) (by omega)).mp q) (by omega)
    rcases n4 with ⟨-, q⟩ | ⟨q1, q2⟩
    · omega
    · rw [q1, q2, d2, if_neg m1, if_neg m2, if_neg (show ¬ (1 : Int32) = 0 by decide), if_pos (show (0 : Int32) = 0 from rfl), nI_clamp (by omega), n5 i hi]
      exact ⟨⟨fun q => absurd q m1, fun _ => ⟨fun q => absurd q m2, fun _ => ⟨⟨vp_in_nI (by omega) (by omega), trivial⟩, trivial⟩⟩⟩, ⟨fun q => absurd q (by decide), fun _ => ⟨fun _ => ⟨vp_in_nI (N := 3001) (by omega) (by omega), trivial⟩, fun q => absurd rfl q⟩⟩, rfl, hR⟩
  · have cl : (if a0 < 0 then (1000000000000 : Int64) else if nI n ≤ a0 then 1000000000000 else (M 61 a0.toNatClampNeg).toInt64) = 1000000000000 := by
      by_cases q : a0 < 0
      · rw [if_pos q]
      · rw [if_neg q]
        obtain ⟨m, hm, rfl⟩ := exn q
        rw [if_pos ((nI_leI (by omega) hm).mpr (by
          by_cases w : m < n
          · exact absurd ⟨m, w, rfl⟩ d3
          · omega))]
    have pcl : ¬ a0 < 0 → ¬ nI n ≤ a0 → False := fun q w => by
      obtain ⟨m, hm, rfl⟩ := exn q
      refine d3 ⟨m, ?_, rfl⟩
      by_cases v : m < n
      · exact v
      · exact absurd ((nI_leI (by omega) hm).mpr (by omega)) w
    rw [cl]
    refine ⟨⟨fun _ => trivial, fun q => ⟨fun _ => trivial, fun w => absurd (pcl q w) (fun z => z)⟩⟩, ?_⟩
    rcases n4 with ⟨q1, q2⟩ | ⟨q1, q2⟩
    · rw [q1, if_pos (show (0 : Int32) = 0 from rfl)]
      exact ⟨⟨fun _ => trivial, fun q => absurd rfl q⟩, rfl, hR⟩
    · rw [q1, q2, d2, if_neg (show ¬ (1 : Int32) = 0 by decide), if_neg (show ¬ (1 : Int32) = 0 by decide)]
      exact ⟨⟨fun q => absurd q (by decide), fun _ => ⟨fun q => absurd q (by decide), fun _ => trivial⟩⟩, rfl, hR⟩
theorem r_count (M : cs_Mem) (a0 : Int32) (h : RelC M) : (pre_X_count M 0 a0) ∧ (pre_Mo_count M 62 a0) ∧ (f_X_count M 0 a0 = (f_Mo_count M 62 a0).1) ∧ (RelC ((f_Mo_count M 62 a0).2)) := by
  have hR := h
  obtain ⟨ts, hT⟩ := h
  obtain ⟨x1, x2, x3, x4, x5, x6⟩ := hT.2.2.2.2.2.2.2.2
  obtain ⟨b1, b2, b3⟩ := hT.begun
  have e0 : M 62 0 = M 1 6 := hT.2.1.1
  have e41 : M (52 + 1) 41 = nI ts.length := hT.2.2.2.1.2.2.2.2.2.2.1
  have e42 : M (52 + 1) 42 = nI (mLg (rn M msZ ts)).length := hT.2.2.2.1.2.2.2.2.2.2.2
  have v41 : vp_in 41 (cs_ln M (52 + 1)) := vp_in_nI (n := 41) (N := 43) (by omega) (by omega)
  have v42 : vp_in 42 (cs_ln M (52 + 1)) := vp_in_nI (n := 42) (N := 43) (by omega) (by omega)
  have pc : pre_X_count M 0 a0 := by
    unfold pre_X_count pre_Ma_steps pre_Ma_logSize
    exact ⟨fun _ => trivial, fun _ => ⟨fun _ => ⟨⟨v41, trivial⟩, trivial⟩, fun _ => ⟨fun _ => ⟨⟨v42, trivial⟩, trivial⟩, fun _ => ⟨fun _ => trivial, fun _ => ⟨fun _ => trivial, fun _ => ⟨fun _ => ⟨b1, trivial⟩, fun _ => trivial⟩⟩⟩⟩⟩⟩
  refine ⟨pc, ?_⟩
  unfold f_X_count f_Pr_classCount f_Ma_steps f_Ma_logSize f_Ex_orders f_Ex_stuckOrders pre_Mo_count f_Mo_count
  simp only [cs_bd_eq]
  rcases below_out M M a0 6 (by omega) with ⟨-, d2, n, hn, rfl⟩ | ⟨-, d2, d3⟩
  · have d2 : f_Mo_out M (nI n) 6 = 0 := d2
    rw [d2, if_pos (show (0 : Int32) = 0 from rfl)]
    by_cases q2 : n = 2
    · subst q2
      obtain ⟨u, hu, w1, w2, w3, w4, w5, w6, w7⟩ := hT.work
      rw [hu, if_pos (show nI 2 = 2 from rfl)]
      unfold f_Mo_count_J20
      rw [if_neg (show ¬ nI 2 = 0 by decide), if_neg (show ¬ nI 2 = 1 by decide), if_pos (show nI 2 = 2 from rfl), if_neg (show ¬ nI 2 = 0 by decide), if_neg (show ¬ nI 2 = 1 by decide), if_pos (show nI 2 = 2 from rfl)]
      refine ⟨⟨fun _ => ⟨fun _ => ⟨w1, trivial⟩, fun q => absurd rfl q⟩, fun q => absurd rfl q⟩, ?_, ts, hT.km w2⟩
      dsimp only
      rw [e42, w3.1.2.2.2.2.2.2.1]
    · have q2' : ¬ nI n = 2 := fun w => q2 ((neq (b := 2) (by omega) (by omega)).mp w)
      rw [if_neg (show ¬ nI n = 2 from q2')]
      refine ⟨⟨fun _ => ⟨fun q => absurd q q2', fun _ => trivial⟩, fun q => absurd rfl q⟩, ?_⟩
      unfold f_Mo_count_J20
      have hc : n = 0 ∨ n = 1 ∨ n = 3 ∨ n = 4 ∨ n = 5 := by omega
      rcases hc with rfl | rfl | rfl | rfl | rfl
      · rw [if_pos (show nI 0 = 0 from rfl), if_pos (show nI 0 = 0 from rfl)]
        exact ⟨e0.symm, hR⟩
      · rw [if_neg (show ¬ nI 1 = 0 by decide), if_pos (show nI 1 = 1 from rfl), if_neg (show ¬ nI 1 = 0 by decide), if_pos (show nI 1 = 1 from rfl)]
        exact ⟨e41.trans hT.2.2.2.2.2.1.symm, hR⟩
      · have c0 : (nI 3 = 0) = False := eq_false (by decide)
        have c1 : (nI 3 = 1) = False := eq_false (by decide)
        have c2 : (nI 3 = 2) = False := eq_false (by decide)
        have c3 : (nI 3 = 3) = True := eq_true rfl
        simp only [c0, c1, c2, c3, if_false, if_true]
        by_cases z : M 62 31 = 0
        · rw [if_pos z]
          exact ⟨x1, hR⟩
        · rw [if_neg z]
          exact ⟨x1, hR⟩
      · rw [if_neg (show ¬ nI 4 = 0 by decide), if_neg (show ¬ nI 4 = 1 by decide), if_neg (show ¬ nI 4 = 3 by decide), if_pos (show nI 4 = 4 from rfl), if_neg (show ¬ nI 4 = 0 by decide), if_neg (show ¬ nI 4 = 1 by decide), if_neg (show ¬ nI 4 = 2 by decide), if_neg (show ¬ nI 4 = 3 by decide), if_pos (show nI 4 = 4 from rfl)]
        exact ⟨x2, hR⟩
      · rw [if_neg (show ¬ nI 5 = 0 by decide), if_neg (show ¬ nI 5 = 1 by decide), if_neg (show ¬ nI 5 = 3 by decide), if_neg (show ¬ nI 5 = 4 by decide), if_pos (show nI 5 = 5 from rfl), if_neg (show ¬ nI 5 = 0 by decide), if_neg (show ¬ nI 5 = 1 by decide), if_neg (show ¬ nI 5 = 2 by decide), if_neg (show ¬ nI 5 = 3 by decide), if_neg (show ¬ nI 5 = 4 by decide), b2]
        rcases b3 with ⟨-, z⟩ | ⟨-, z⟩
        · rw [z, if_pos (show (0 : Int32) = 0 from rfl), if_pos (show (0 : Int32) = 0 from rfl)]
          exact ⟨rfl, hR⟩
        · rw [z, if_neg (show ¬ (1 : Int32) = 0 by decide), if_neg (show ¬ (1 : Int32) = 0 by decide)]
          exact ⟨rfl, hR⟩
  · have d2 : f_Mo_out M a0 6 = 1 := d2
    rw [d2, if_neg (show ¬ (1 : Int32) = 0 by decide)]
    rw [if_neg (show ¬ a0 = 0 from fun e => d3 ⟨0, by omega, e⟩), if_neg (show ¬ a0 = 1 from fun e => d3 ⟨1, by omega, e⟩), if_neg (show ¬ a0 = 2 from fun e => d3 ⟨2, by omega, e⟩), if_neg (show ¬ a0 = 3 from fun e => d3 ⟨3, by omega, e⟩), if_neg (show ¬ a0 = 4 from fun e => d3 ⟨4, by omega, e⟩), if_neg (show ¬ a0 = 5 from fun e => d3 ⟨5, by omega, e⟩)]
    exact ⟨⟨fun q => absurd q (by decide), fun _ => trivial⟩, rfl, hR⟩
theorem r_start : RelC cs_M0 := by
  have sc : ∀ f, f < 11 → cs_M0 (8 + 4 * f) = (fun k => if k = 0 then nI (if f < 8 then 5 else 3) else 0) := lt11 rfl rfl rfl rfl rfl rfl rfl rfl rfl rfl rfl
  have hL : ∀ f, f < 11 → pgL cs_M0 f = 0 := fun f hf => by unfold pgL; rw [sc f hf]; rfl
  have hU : ∀ f, f < 11 → pgU cs_M0 f = 0 := fun f hf => by unfold pgU; rw [sc f hf]; rfl
  have hN : pgN cs_M0 = 0 := rfl
  refine ⟨[], ⟨⟨0, by omega, rfl⟩, fun c _ => Or.inl rfl, fun c _ => Or.inl rfl, fun f hf => ⟨⟨0, 0, ?_, ?_, by omega, by omega, by omega, by omega⟩, ?_, fun p hp => ?_⟩⟩, ⟨rfl, fun c hc => ⟨rfl, rfl, rfl, rfl, Or.inl rfl, ?_, fun i _ h => ?_⟩, fun c _ hc => ⟨rfl, hL c (by omega), rfl⟩, fun c hc => ?_, fun t ht => ⟨?_, hU _ (by omega)⟩, fun f hf i hi => ?_⟩, trivial, ⟨fun c hc => ?_, fun c hc => ?_, fun f hf => ?_, fun t ht => ?_, fun t ht => ?_, fun t ht c l1 l2 _ q => ?_, ?_, ?_⟩, fun i hi => absurd hi (by show ¬ i < 0; omega), rfl, fun i hi => by simp at hi, rfl, rfl, rfl, ⟨0, by omega, rfl⟩, Or.inl rfl, ⟨0, rfl, by omega, by omega, Or.inl ⟨rfl, rfl⟩, fun i hi => by omega⟩, fun q => absurd q (by decide)⟩
  · rw [sc f hf]; rfl
  · rw [sc f hf]; rfl
  · rw [sc f hf]; rfl
  · rw [hL f hf] at hp
    omega
  · rw [hL c (by omega), hU c (by omega)]; rfl
  · exact rfl
  · rw [hN] at hc
    omega
  · rw [hL _ (by omega)]; rfl
  · rw [hL f hf] at hi
    omega
  · show cs_row0 c = nI 0
    unfold cs_row0
    rw [up_n (by omega), up_n (by omega), up_n (by omega)]
    rfl
  · show cs_row0 (8 + c) = 0
    unfold cs_row0
    rw [up_n (by omega), up_n (by omega), up_n (by omega)]
  · show cs_row0 (24 + f) = nI 0
    unfold cs_row0
    rw [up_n (by omega), up_n (by omega), up_n (by omega)]
    rfl
  · show cs_row0 (35 + t) = nI (8 + t)
    have : t = 0 ∨ t = 1 ∨ t = 2 := by omega
    rcases this with rfl | rfl | rfl <;> rfl
  · show cs_row0 (38 + t) = nI 0
    unfold cs_row0
    rw [up_n (by omega), up_n (by omega), up_n (by omega)]
    rfl
  · have : ([] : List Nat) = l1 ++ c :: l2 := q
    simp at this
  · rfl
  · rfl
theorem r_all : ∃ Rel, cs_RelOK Rel ∧ (∀ k M, k < 512 → Rel k M → Rel (k + 1) M) ∧ Rel 0 cs_M0 := by
  refine ⟨fun _ M => RelC M, ?_, fun k M _ h => h, r_start⟩
  unfold cs_RelOK
  refine ⟨?_, ?_, ?_, ?_, ?_, ?_, ?_, ?_, ?_, ?_, ?_, ?_, ?_, ?_, ?_⟩
  · exact fun k M a0 a1 a2 a3 _ h h1 h2 => r_declare M a0 a1 a2 a3 h h1 h2
  · exact fun k M a0 a1 a2 _ h h2 => r_inherit M a0 a1 a2 h h2
  · exact fun k M a0 a1 a2 a3 _ h => r_act M a0 a1 a2 a3 h
  · exact fun k M a0 a1 a2 _ h => r_plan M a0 a1 a2 h
  · exact fun k M a0 _ h => r_step M a0 h
  · exact fun k M _ h => r_reset M h
  · exact fun k M a0 _ h => r_state k M a0 h
  · exact fun k M a0 a1 _ h => r_statics k M a0 a1 h
  · exact fun k M a0 _ h => r_result k M a0 h
  · exact fun k M a0 _ h => r_inside k M a0 h
  · exact fun k M a0 _ h => r_waitsFor k M a0 h
  · exact fun k M a0 _ h => r_logged k M a0 h
  · exact fun k M _ h => r_explore M h
  · exact fun k M a0 _ h => r_outcome M a0 h
  · exact fun k M a0 _ h => r_count M a0 h
