/-! the reference's explore is the abstract loop -/
theorem s37_S (n : Nat) (M : cs_Mem) (y1 y2 y3 y4 : Int32) : f_Mo_explore_S37 (n + 1) M 62 y1 y2 y3 y4 = if y1 ≤ y4 then M else f_Mo_explore_S37 n (f_Mo_stepOf M 62 (M 77 y4.toNatClampNeg)) 62 y1 y2 y3 (y4 + 1) := by
  rw [f_Mo_explore_S37]
  simp only [cs_bd_eq]
theorem ps37_S (n : Nat) (M : cs_Mem) (y1 y2 y3 y4 : Int32) : pre_Mo_explore_S37 (n + 1) M 62 y1 y2 y3 y4 ↔ (y1 ≤ y4 → True) ∧ (¬ y1 ≤ y4 → vp_in y4 (cs_ln M 77) ∧ pre_Mo_stepOf M 62 (M 77 y4.toNatClampNeg) ∧ pre_Mo_explore_S37 n (f_Mo_stepOf M 62 (M 77 y4.toNatClampNeg)) 62 y1 y2 y3 (y4 + 1)) := by
  rw [pre_Mo_explore_S37]
  simp only [cs_bd_eq]
theorem m_replayL {y2 y3 : Int32} : ∀ (us : List Nat) (n i k : Nat) (M : cs_Mem) (S : Ms), WP M → PRel M → Sg M S i → EncM S M → okR M S us → us.length ≤ n → k = i + us.length → (∀ q, q < us.length → M 77 (i + q) = nI (us.getD q 0)) → k ≤ 300 → pre_Mo_explore_S37 (n + 1) M 62 (nI k) y2 y3 (nI i) ∧ KM M (f_Mo_explore_S37 (n + 1) M 62 (nI k) y2 y3 (nI i)) ∧ EncM (rn M S us) (f_Mo_explore_S37 (n + 1) M 62 (nI k) y2 y3 (nI i))
  | [], n, i, k, M, S, hW, hP, hs, hE, ok, hn, hk, h77, hb => by
    simp at hk
    have c : nI k ≤ nI i := (nle (by omega) (by omega)).mpr (by omega)
    rw [s37_S, ps37_S, if_pos c]
    exact ⟨⟨fun _ => trivial, fun q => absurd c q⟩, KM.refl M, hE⟩
  | t :: us, n, i, k, M, S, hW, hP, hs, hE, ok, hn, hk, h77, hb => by
    simp at hn hk
    have c : ¬ nI k ≤ nI i := fun q => absurd ((nle (by omega) (by omega)).mp q) (by omega)
    have e0 : M 77 i = nI t := h77 0 (by simp)
    rw [s37_S, ps37_S, if_neg c, nI_clamp (by omega), e0, nI_1]
    have st := m_stepOf hW hP hs.1.1 hs.2 hE ok.1 ok.2.1 (by have := hs.1.lg hW; omega)
    have kk := st.2.1
    have pe := kk.pe
    have hs2 := hs.step hW ok.1 ok.2.1
    obtain ⟨m, rfl⟩ : ∃ m, n = m + 1 := ⟨n - 1, by omega⟩
    have pr := pe.run hW us (mStep M S t) (i + 1) hs2 ok.2.2
    have r := m_replayL (y2 := y2) (y3 := y3) us m (i + 1) k (f_Mo_stepOf M 62 (nI t)) (mStep M S t) (pe.wp hW) (kk.prel hW hP) (pe.sg hs2) st.2.2 pr.1 (by omega) (by omega) (fun q hq => by
      rw [kk.1 77 (by omega), show i + 1 + q = i + (q + 1) by omega, h77 (q + 1) (by simp; omega)]
      rfl) hb
    rw [pr.2] at r
    exact ⟨⟨fun _ => trivial, fun _ => ⟨vp_in_nI (N := 400) (by omega) (by omega), st.1, r.1⟩⟩, kk.trans r.2.1, r.2.2⟩
theorem m_replay {M : cs_Mem} {ts : List Nat} {y2 y3 : Int32} (hW : WP M) (hP : PRel M) (ok : okR M msZ ts) (h77 : ∀ q, q < ts.length → M 77 q = nI (ts.getD q 0)) : pre_Mo_start M 62 ∧ pre_Mo_explore_S37 500 (f_Mo_start M 62) 62 (nI ts.length) y2 y3 (nI 0) ∧ KM M (f_Mo_explore_S37 500 (f_Mo_start M 62) 62 (nI ts.length) y2 y3 (nI 0)) ∧ EncM (rn M msZ ts) (f_Mo_explore_S37 500 (f_Mo_start M 62) 62 (nI ts.length) y2 y3 (nI 0)) := by
  have s := m_start hW hP
  have k := s.2.1
  have pe := k.pe
  have hl : ts.length ≤ 89 := by
    have := (Sg.run hW ts msZ 0 (sg0 hW) ok).1.le hW
    omega
  have pr := pe.run hW ts msZ 0 (sg0 hW) ok
  have r := m_replayL (y2 := y2) (y3 := y3) ts 499 0 ts.length (f_Mo_start M 62) msZ (pe.wp hW) (k.prel hW hP) (sg0 (pe.wp hW)) s.2.2 pr.1 (by omega) (by omega) (fun q hq => by rw [k.1 77 (by omega), Nat.zero_add]; exact h77 q hq) (by omega)
  rw [pr.2] at r
  exact ⟨s.1, r.1, k.trans r.2.1, r.2.2⟩
def TP (M : cs_Mem) : List (Ms × Nat) → Prop
  | [] => True
  | q :: P => M 77 P.length = nI q.2 ∧ TP M P
theorem TP.congr {M N : cs_Mem} : ∀ (P : List (Ms × Nat)), TP M P → (∀ i, i < P.length → N 77 i = M 77 i) → TP N P
  | [], _, _ => trivial
  | q :: P, h, e => by
    simp at e
    exact ⟨by rw [e _ (by omega)]; exact h.1, TP.congr P h.2 (fun i hi => e i (by omega))⟩
theorem Ch.ts {Q M : cs_Mem} : ∀ (P : List (Ms × Nat)) (S : Ms), Ch Q P S → TP M P → ∃ ts : List Nat, okR Q msZ ts ∧ rn Q msZ ts = S ∧ ts.length = P.length ∧ ∀ i, i < ts.length → M 77 i = nI (ts.getD i 0)
  | [], S, h, _ => ⟨[], trivial, (show S = msZ from h).symm, rfl, fun i hi => by simp at hi⟩
  | q :: P, S, h, hT => by
    obtain ⟨h1, h2, h3, h4⟩ := h
    obtain ⟨ts, a1, a2, a3, a4⟩ := Ch.ts P q.1 h4 hT.2
    refine ⟨ts ++ [q.2], (okR_app Q ts [q.2] msZ).mpr ⟨a1, by rw [a2]; exact ⟨h1, h2, trivial⟩⟩, ?_, by simp [a3], fun i hi => ?_⟩
    · rw [rn_app, a2, h3]
      rfl
    · simp at hi
      by_cases w : i < ts.length
      · rw [a4 i w]
        simp [List.getElem?_append, w]
      · have : i = ts.length := by omega
        subst this
        rw [a3, hT.1, ← a3]
        simp
def KE (M N : cs_Mem) : Prop := (∀ i, (i < 62 ∨ (62 < i ∧ i < 77) ∨ 86 < i) → N i = M i) ∧ ∀ k, k ≠ 26 → k ≠ 28 → k ≠ 29 → k ≠ 30 → k ≠ 31 → N 62 k = M 62 k
theorem KE.pe {M N : cs_Mem} (h : KE M N) : PE M N := fun i hi => h.1 i (by omega)
theorem KE.prel {M N : cs_Mem} (h : KE M N) (hW : WP M) (hP : PRel M) : PRel N := prel_of h.pe (fun i i1 i2 => h.1 i (by omega)) (h.2 0 (by omega) (by omega) (by omega) (by omega) (by omega)) hW hP
theorem KE.trans {M N O : cs_Mem} (h : KE M N) (g : KE N O) : KE M O := ⟨fun i hi => (g.1 i hi).trans (h.1 i hi), fun k a b c d e => (g.2 k a b c d e).trans (h.2 k a b c d e)⟩
theorem KM.ke {M N : cs_Mem} (h : KM M N) : KE M N := ⟨fun i hi => h.1 i (by omega), fun k a _ _ _ _ => h.2 k a⟩
def xf4 (N : cs_Mem) : cs_Mem :=
  cs_bd (cs_up N 62 (upd (N 62) 30 0)) fun (N38 : cs_Mem) =>
  cs_bd (cs_up N38 62 (upd (N38 62) 29 0)) fun (N39 : cs_Mem) =>
  cs_bd (cs_up N39 62 (upd (N39 62) 28 0)) fun (N40 : cs_Mem) =>
  cs_up N40 62 (upd (N40 62) 31 0)
def xUp (n : Nat) (N : cs_Mem) (y1 : Int32) : Int32 × cs_Mem := if (N 62 29) ≤ 3000 then (if y1 ≤ 0 then f_Mo_explore_L26 n N 62 (y1 + (-1)) 0 0 else f_Mo_explore_L26 n N 62 (y1 + (-1)) ((N 77 (y1 + (-1)).toNatClampNeg) + 1) 1) else ((-2), xf4 N)
def pUp (n : Nat) (N : cs_Mem) (y1 : Int32) : Prop := (N 62 29) ≤ 3000 → (y1 ≤ 0 → pre_Mo_explore_L26 n N 62 (y1 + (-1)) 0 0) ∧ (¬ y1 ≤ 0 → vp_in (y1 + (-1)) (cs_ln N 77) ∧ pre_Mo_explore_L26 n N 62 (y1 + (-1)) ((N 77 (y1 + (-1)).toNatClampNeg) + 1) 1)
theorem xp_S (n : Nat) (M A : cs_Mem) (y1 y2 y3 : Int32) (hA : f_Mo_explore_S37 500 (f_Mo_start M 62) 62 y1 y2 y3 0 = A) : f_Mo_explore_L26 (n + 1) M 62 y1 y2 y3 = if y3 = 0 then (M 62 28, M) else if 3 ≤ f_Mo_nextThread A 62 y2 then (if y2 = 0 then xUp n (f_Mo_noteOrder A 62) y1 else xUp n A y1) else f_Mo_explore_L26 n (cs_up A 77 (upd (A 77) y1.toNatClampNeg (f_Mo_nextThread A 62 y2))) 62 (y1 + 1) 0 y3 := by
  rw [f_Mo_explore_L26]
  simp only [cs_bd_eq]
  rw [hA]
  unfold xUp xf4
  simp only [cs_bd_eq]
theorem pxp_S (n : Nat) (M A : cs_Mem) (y1 y2 y3 : Int32) (hA : f_Mo_explore_S37 500 (f_Mo_start M 62) 62 y1 y2 y3 0 = A) (h : pre_Mo_start M 62 ∧ pre_Mo_explore_S37 500 (f_Mo_start M 62) 62 y1 y2 y3 0 ∧ pre_Mo_nextThread A 62 y2 ∧ (3 ≤ f_Mo_nextThread A 62 y2 → (y2 = 0 → pre_Mo_noteOrder A 62 ∧ pUp n (f_Mo_noteOrder A 62) y1) ∧ (¬ y2 = 0 → pUp n A y1)) ∧ (¬ 3 ≤ f_Mo_nextThread A 62 y2 → vp_in y1 (cs_ln A 77) ∧ pre_Mo_explore_L26 n (cs_up A 77 (upd (A 77) y1.toNatClampNeg (f_Mo_nextThread A 62 y2))) 62 (y1 + 1) 0 y3)) : pre_Mo_explore_L26 (n + 1) M 62 y1 y2 y3 := by
  rw [pre_Mo_explore_L26]
  simp only [cs_bd_eq]
  rw [hA]
  obtain ⟨h1, h2, h3, h4, h5⟩ := h
  exact ⟨fun _ => trivial, fun _ => ⟨h1, h2, h3, fun q => ⟨fun z => ⟨((h4 q).1 z).1, ((h4 q).1 z).2, fun _ => trivial⟩, fun z => ⟨(h4 q).2 z, fun _ => trivial⟩⟩, h5⟩⟩
def FinM (M0 : cs_Mem) (r : Int32 × cs_Mem) (res : Option (List Nat × Nat × Nat)) : Prop := KE M0 r.2 ∧ match res with
  | none => r.1 = -2 ∧ r.2 62 28 = 0 ∧ r.2 62 29 = 0 ∧ r.2 62 30 = 0 ∧ r.2 62 31 = 0
  | some (l, o, s) => r.1 = nI l.length ∧ r.2 62 28 = nI l.length ∧ r.2 62 29 = nI o ∧ r.2 62 30 = nI s ∧ r.2 62 31 = 1 ∧ FE l (r.2 86)
def KR (M0 M : cs_Mem) (P : List (Ms × Nat)) (l : List Nat) (o s : Nat) : Prop := KE M0 M ∧ TP M P ∧ FM M l ∧ M 62 29 = nI o ∧ M 62 30 = nI s ∧ M 62 31 = 1
theorem KM.kr {M0 M N : cs_Mem} {P : List (Ms × Nat)} {l : List Nat} {o s : Nat} (h : KR M0 M P l o s) (k : KM M N) : KR M0 N P l o s := by
  obtain ⟨h1, h2, h3, h4, h5, h6⟩ := h
  refine ⟨h1.trans k.ke, TP.congr P h2 (fun i _ => by rw [k.1 77 (by omega)]), ⟨?_, ?_⟩, ?_, ?_, ?_⟩
  · rw [k.1 86 (by omega)]; exact h3.1
  · rw [k.2 28 (by omega)]; exact h3.2
  · rw [k.2 29 (by omega)]; exact h4
  · rw [k.2 30 (by omega)]; exact h5
  · rw [k.2 31 (by omega)]; exact h6
theorem NR.kr {M0 M N : cs_Mem} {P : List (Ms × Nat)} {l l' : List Nat} {o s o' s' : Nat} (h : KR M0 M P l o s) (k : NR M N l' o' s') : KR M0 N P l' o' s' := by
  obtain ⟨h1, h2, h3, h4, h5, h6⟩ := h
  obtain ⟨k1, k2, k3, k4, k5⟩ := k
  refine ⟨h1.trans ⟨fun i hi => k5 i (by omega) (by omega), fun q _ b c d _ => k4 q b c d⟩, TP.congr P h2 (fun i _ => by rw [k5 77 (by omega) (by omega)]), k1, k2, k3, ?_⟩
  rw [k4 31 (by omega) (by omega) (by omega)]
  exact h6
theorem m_up {Q M0 N : cs_Mem} {P : List (Ms × Nat)} {l : List Nat} {o s n K : Nat} (hd : P.length ≤ 89) (ho : o ≤ 3001) (k : KR M0 N P l o s) (ih : ∀ q P', P = q :: P' → ¬ 3000 < o → KR M0 N P' l o s → q.2 < 3 → pre_Mo_explore_L26 (n + (K + 1)) N 62 (nI P'.length) (nI (q.2 + 1)) 1 ∧ FinM M0 (f_Mo_explore_L26 (n + (K + 1)) N 62 (nI P'.length) (nI (q.2 + 1)) 1) (exL Q n P' q.1 (q.2 + 1) l o s)) (hq : ∀ q P', P = q :: P' → q.2 < 3) : pUp (n + (K + 1)) N (nI P.length) ∧ FinM M0 (xUp (n + (K + 1)) N (nI P.length)) (if 3000 < o then none else exU Q n P l o s) := by
  have k' := k
  obtain ⟨h1, h2, h3, h4, h5, h6⟩ := k
  unfold pUp xUp
  rw [h4]
  by_cases w : 3000 < o
  · have w' : ¬ nI o ≤ 3000 := fun q => absurd ((nle (b := 3000) (by omega) (by omega)).mp q) (by omega)
    rw [if_neg w', if_pos w]
    refine ⟨fun q => absurd q w', h1.trans ⟨fun i hi => ?_, fun q a b c d e => ?_⟩, rfl, ?_, ?_, ?_, ?_⟩
    · unfold xf4
      simp only [cs_bd_eq]
      rw [cs_up_ne _ _ (by omega), cs_up_ne _ _ (by omega), cs_up_ne _ _ (by omega), cs_up_ne _ _ (by omega)]
    · unfold xf4
      simp only [cs_bd_eq, cs_up_self]
      rw [up_n e, up_n b, up_n c, up_n d]
    all_goals
      unfold xf4
      simp only [cs_bd_eq, cs_up_self]
      simp [upd]
  · have w' : nI o ≤ 3000 := (nle (b := 3000) (by omega) (by omega)).mpr (by omega)
    rw [if_pos w', if_neg w]
    cases P with
    | nil =>
      have c0 : nI ([] : List (Ms × Nat)).length ≤ 0 := by decide
      rw [if_pos c0, ← Nat.add_assoc]
      have e := xp_S (n + K) N (f_Mo_explore_S37 500 (f_Mo_start N 62) 62 (nI ([] : List (Ms × Nat)).length + (-1)) 0 0 0) (nI ([] : List (Ms × Nat)).length + (-1)) 0 0 rfl
      rw [if_pos rfl] at e
      rw [e]
      refine ⟨fun _ => ⟨fun _ => ?_, fun q => absurd c0 q⟩, h1, h3.2, h3.2, h4, h5, h6, h3.1⟩
      rw [pre_Mo_explore_L26]
      exact ⟨fun _ => trivial, fun q => absurd rfl q⟩
    | cons q P' =>
      simp at hd
      have hq3 := hq q P' rfl
      have c0 : ¬ nI (q :: P').length ≤ 0 := fun z => absurd ((nle (b := 0) (by simp; omega) (by omega)).mp z) (by simp)
      have e1 : nI (q :: P').length + (-1) = nI P'.length := nI_m1' _
      rw [if_neg c0, e1, nI_clamp (by omega), h2.1, nI_1]
      have r := ih q P' rfl w ⟨h1, h2.2, h3, h4, h5, h6⟩ hq3
      exact ⟨fun _ => ⟨fun z => absurd z c0, fun _ => ⟨vp_in_nI (N := 400) (by omega) (by omega), r.1⟩⟩, r.2⟩
theorem m_loop {Q M0 : cs_Mem} (hW : WP Q) (hQ : PE Q M0) (hP : PRel M0) (K : Nat) : ∀ (n T : Nat) (M : cs_Mem) (P : List (Ms × Nat)) (S : Ms) (y : Nat) (l : List Nat) (o s : Nat), T + n = 600000 → Cfg Q P S y l o s T → KR M0 M P l o s → pre_Mo_explore_L26 (n + (K + 1)) M 62 (nI P.length) (nI y) 1 ∧ FinM M0 (f_Mo_explore_L26 (n + (K + 1)) M 62 (nI P.length) (nI y) 1) (exL Q n P S y l o s) := by
  intro n
  induction n with
  | zero =>
    intro T M P S y l o s hT hc _
    have := (hc.T hW).2
    omega
  | succ n ih =>
    intro T M P S y l o s hTn hc hk
    obtain ⟨hd, hT⟩ := hc.T hW
    have hW0 := hQ.wp hW
    have hQM : PE Q M := fun i hi => (hk.1.pe i hi).trans (hQ i hi)
    have hs := Ch.sg hW P S hc.1
    have hI := hs.1.1
    have hy := hc.2.1
    have ho : o ≤ 3000 := hc.2.2.2.2.2.1
    have hll : l.length ≤ o := hc.2.2.2.2.1
    obtain ⟨ts, t1, t2, t3, t4⟩ := Ch.ts (M := M) P S hc.1 hk.2.1
    have okM := hQM.run hW ts msZ 0 (sg0 hW) t1
    have rp := m_replay (y2 := nI y) (y3 := 1) (hQM.wp hW) (hk.1.prel hW0 hP) okM.1 t4
    rw [okM.2, t2, t3] at rp
    obtain ⟨A, hA⟩ : ∃ A, f_Mo_explore_S37 500 (f_Mo_start M 62) 62 (nI P.length) (nI y) 1 (nI 0) = A := ⟨_, rfl⟩
    rw [hA] at rp
    obtain ⟨p1, p2, kA, eA⟩ := rp
    have krA := kA.kr hk
    have hQA : PE Q A := fun i hi => (kA.pe i hi).trans (hQM i hi)
    have hWA := hQA.wp hW
    have hPA := krA.1.prel hW0 hP
    have hIA := hQA.inv hI
    have nx := m_nx hWA hPA hIA eA hy
    rw [hQA.nx hI] at nx
    rw [show n + 1 + (K + 1) = n + (K + 1) + 1 by omega]
    have fS := xp_S (n + (K + 1)) M A (nI P.length) (nI y) 1 hA
    have pS := pxp_S (n + (K + 1)) M A (nI P.length) (nI y) 1 hA
    rw [nx.1, if_neg (by decide)] at fS
    rw [nx.1] at pS
    rw [exL_S]
    by_cases h3 : mNx Q S y = 3
    · have r3 : (3 : Int32) ≤ nI (mNx Q S y) := by rw [h3]; decide
      rw [if_pos r3] at fS
      rw [if_pos h3]
      have hno : no y o ≤ 3001 := by unfold no; split <;> omega
      have up : ∀ N, KR M0 N P (nl Q S y l) (no y o) (ns Q S y s) → pUp (n + (K + 1)) N (nI P.length) ∧ FinM M0 (xUp (n + (K + 1)) N (nI P.length)) (if 3000 < no y o then none else exU Q n P (nl Q S y l) (no y o) (ns Q S y s)) := by
        intro N kN
        refine m_up hd hno kN (fun q P' e w k2 q3 => ?_) (fun q P' e => ?_)
        · subst e
          exact ih (T + 1) N P' q.1 (q.2 + 1) _ _ _ (by omega) (hc.up hW w) k2
        · subst e
          exact hc.1.1
      by_cases y0 : y = 0
      · have y0' : nI y = 0 := by rw [y0]; rfl
        rw [if_pos y0'] at fS
        have en := m_noteO hWA hPA hIA eA (by rw [hQA.nx hI, ← y0]; exact h3) krA.2.2.1 (by omega) hc.2.2.1 hc.2.2.2.1 krA.2.2.2.1 krA.2.2.2.2.1
        have e2 := en.2
        rw [hQA.oc, hQA.sk] at e2
        have k2 := e2.kr krA
        have n1 : nl Q S y l = insN l (ocN Q S) := by unfold nl; rw [if_pos y0]
        have n2 : no y o = o + 1 := by unfold no; rw [if_pos y0]
        have n3 : ns Q S y s = s + stk Q S := by unfold ns; rw [if_pos y0]
        rw [← n1, ← n2, ← n3] at k2
        have u := up _ k2
        rw [fS]
        exact ⟨pS ⟨p1, p2, nx.2, fun _ => ⟨fun _ => ⟨en.1, u.1⟩, fun q => absurd y0' q⟩, fun q => absurd r3 q⟩, u.2⟩
      · have y0' : ¬ nI y = 0 := fun q => y0 ((nI0 (by omega)).mp q)
        rw [if_neg y0'] at fS
        have n1 : nl Q S y l = l := by unfold nl; rw [if_neg y0]
        have n2 : no y o = o := by unfold no; rw [if_neg y0]
        have n3 : ns Q S y s = s := by unfold ns; rw [if_neg y0]
        have u := up A (by rw [n1, n2, n3]; exact krA)
        rw [fS]
        exact ⟨pS ⟨p1, p2, nx.2, fun _ => ⟨fun q => absurd q y0', fun _ => u.1⟩, fun q => absurd r3 q⟩, u.2⟩
    · rcases nx_cases (Q := Q) (S := S) (y := y) with q | q
      · exact absurd q h3
      · have r3 : ¬ (3 : Int32) ≤ nI (mNx Q S y) := fun w => absurd ((nle (a := 3) (by omega) (by omega)).mp w) (by omega)
        rw [if_neg r3, nI_clamp (by omega), nI_1] at fS
        rw [nI_clamp (by omega), nI_1] at pS
        rw [if_neg h3, fS]
        have kr2 : KR M0 (cs_up A 77 (upd (A 77) P.length (nI (mNx Q S y)))) ((S, mNx Q S y) :: P) l o s := by
          obtain ⟨h1, h2, h3, h4, h5, h6⟩ := krA
          refine ⟨h1.trans ⟨fun i hi => cs_up_ne _ _ (by omega), fun k _ _ _ _ _ => by rw [cs_up_ne _ _ (by omega)]⟩, ⟨?_, TP.congr P h2 (fun i hi => ?_)⟩, ⟨?_, ?_⟩, ?_, ?_, ?_⟩
          · rw [cs_up_self, up_s]
          · rw [cs_up_self, up_n (by omega)]
          · rw [cs_up_ne _ _ (by omega)]; exact h3.1
          · rw [cs_up_ne _ _ (by omega)]; exact h3.2
          · rw [cs_up_ne _ _ (by omega)]; exact h4
          · rw [cs_up_ne _ _ (by omega)]; exact h5
          · rw [cs_up_ne _ _ (by omega)]; exact h6
        have rc := ih (T + 1) _ ((S, mNx Q S y) :: P) (mStep Q S (mNx Q S y)) 0 l o s (by omega) (hc.down h3) kr2
        exact ⟨pS ⟨p1, p2, nx.2, fun w => absurd w r3, fun _ => ⟨vp_in_nI (N := 400) (by omega) (by omega), rc.1⟩⟩, rc.2⟩
theorem m_explore {Q M : cs_Mem} (hW : WP Q) (hQ : PE Q M) (hP : PRel M) : pre_Mo_explore M 62 ∧ FinM M (f_Mo_explore M 62) (exR Q) := by
  obtain ⟨N, hN⟩ : ∃ N, cs_up (cs_up (cs_up (cs_up M 62 (upd (M 62) 30 0)) 62 (upd ((cs_up M 62 (upd (M 62) 30 0)) 62) 29 0)) 62 (upd ((cs_up (cs_up M 62 (upd (M 62) 30 0)) 62 (upd ((cs_up M 62 (upd (M 62) 30 0)) 62) 29 0)) 62) 28 0)) 62 (upd ((cs_up (cs_up (cs_up M 62 (upd (M 62) 30 0)) 62 (upd ((cs_up M 62 (upd (M 62) 30 0)) 62) 29 0)) 62 (upd ((cs_up (cs_up M 62 (upd (M 62) 30 0)) 62 (upd ((cs_up M 62 (upd (M 62) 30 0)) 62) 29 0)) 62) 28 0)) 62) 31 1) = N := ⟨_, rfl⟩
  have e62 : N 62 = upd (upd (upd (upd (M 62) 30 0) 29 0) 28 0) 31 1 := by
    rw [← hN]
    simp only [cs_up_self]
  have ei : ∀ i, i ≠ 62 → N i = M i := fun i hi => by
    rw [← hN, cs_up_ne _ _ hi, cs_up_ne _ _ hi, cs_up_ne _ _ hi, cs_up_ne _ _ hi]
  have kr : KR M N [] [] 0 0 := by
    refine ⟨⟨fun i hi => ei i (by omega), fun k a b c d e => ?_⟩, trivial, ⟨fun i hi => by simp at hi, ?_⟩, ?_, ?_, ?_⟩
    · rw [e62, up_n e, up_n b, up_n c, up_n d]
    · rw [e62, up_n (by omega), up_s]; rfl
    · rw [e62, up_n (by omega), up_n (by omega), up_s]; rfl
    · rw [e62, up_n (by omega), up_n (by omega), up_n (by omega), up_s]; rfl
    · rw [e62, up_s]
  have r := m_loop hW hQ hP 1399999 600000 0 N [] msZ 0 [] 0 0 (by omega) (Cfg.zero Q) kr
  rw [show 600000 + (1399999 + 1) = 2000000 by omega] at r
  unfold pre_Mo_explore f_Mo_explore
  simp only [cs_bd_eq]
  rw [hN]
  exact r
