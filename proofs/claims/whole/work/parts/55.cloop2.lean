/-! the class's goThrough: its loop and its frame -/
def exU (Q : cs_Mem) (n : Nat) (P : List (Ms × Nat)) (l : List Nat) (o s : Nat) : Option (List Nat × Nat × Nat) := match P with
  | [] => some (l, o, s)
  | q :: P' => exL Q n P' q.1 (q.2 + 1) l o s
theorem exL_S (Q : cs_Mem) (n : Nat) (P : List (Ms × Nat)) (S : Ms) (y : Nat) (l : List Nat) (o s : Nat) : exL Q (n + 1) P S y l o s = if mNx Q S y = 3 then (if 3000 < no y o then none else exU Q n P (nl Q S y l) (no y o) (ns Q S y s)) else exL Q n ((S, mNx Q S y) :: P) (mStep Q S (mNx Q S y)) 0 l o s := rfl
theorem c_finF {M0 M : cs_Mem} (hk : KX M0 M) (hp : Pw (cs_ln M 61)) (h : 0 ≤ M 55 7 ∨ ¬ M 55 5 ≤ 3000) : Fin0 M0 (f_Ex_finish M 55) none := by
  have kx : KX M0 (f_Ex_finish M 55) := fun i i1 i2 i3 i4 i5 i6 i7 => by rw [fr_Ex_finish i1]; exact hk i i1 i2 i3 i4 i5 i6 i7
  have hl : cs_ln (f_Ex_finish M 55) 61 = cs_ln M 61 := ln_eq (fr_Ex_finish (by omega))
  refine ⟨kx, ?_, by rw [hl]; exact hp, ?_, ?_, ?_, ?_⟩
  all_goals
    unfold f_Ex_finish f_Ex_dropAll
    simp only [cs_bd_eq, cs_up_self]
    rw [up_n (show (7 : Nat) ≠ 9 by omega), up_n (show (5 : Nat) ≠ 9 by omega)]
    by_cases h7 : 0 ≤ M 55 7
    · rw [if_pos h7]
      simp only [cs_up_self]
      simp [upd]
    · rw [if_neg h7, if_neg (h.resolve_left h7)]
      simp only [cs_up_self]
      simp [upd]
theorem c_finD {M0 M : cs_Mem} {l : List Nat} {o s : Nat} (hk : KX M0 M) (hf : FS M l) (hl : l.length ≤ 3000) (h7 : M 55 7 = -1) (h5 : M 55 5 = nI o) (ho : o ≤ 3000) (h6 : M 55 6 = nI s) : Fin0 M0 (f_Ex_finish M 55) (some (l, o, s)) := by
  have kx : KX M0 (f_Ex_finish M 55) := fun i i1 i2 i3 i4 i5 i6 i7 => by rw [fr_Ex_finish i1]; exact hk i i1 i2 i3 i4 i5 i6 i7
  have hln : cs_ln (f_Ex_finish M 55) 61 = cs_ln M 61 := ln_eq (fr_Ex_finish (by omega))
  have e : f_Ex_finish M 55 55 = upd (upd (M 55) 9 (M 55 4)) 8 1 := by
    unfold f_Ex_finish
    simp only [cs_bd_eq, cs_up_self]
    rw [up_n (show (7 : Nat) ≠ 9 by omega), up_n (show (5 : Nat) ≠ 9 by omega), h7, if_neg (by decide), h5, if_pos (show nI o ≤ 3000 from (nle (b := 3000) (by omega) (by omega)).mpr ho), cs_up_self]
  refine ⟨kx, ?_, by rw [hln]; exact hf.2.2.1, ?_, ?_, ?_, ?_, ?_, ?_, hl⟩
  · rw [e, up_s]
  · rw [e, up_n (by omega), up_s, hf.2.1]
  · rw [e, up_n (by omega), up_n (by omega), hf.2.1]
  · rw [e, up_n (by omega), up_n (by omega), h5]
  · rw [e, up_n (by omega), up_n (by omega), h6]
  · rw [fr_Ex_finish (by omega)]; exact hf.1
  · rw [hln]; exact hf.2.2.2
theorem gt_S (n : Nat) (M : cs_Mem) (y1 : Int32) : f_Ex_goThrough_L6 (n + 1) M y1 = if 1000000 ≤ y1 then f_Ex_finish M 55 else if (M 55 7) < 0 then f_Ex_finish M 55 else if 3000 < (M 55 5) then f_Ex_finish M 55 else if 3 ≤ f_Ma_nextAble M 56 (M 60 (M 55 7).toNatClampNeg) then (if (M 60 (M 55 7).toNatClampNeg) = 0 then f_Ex_goThrough_L6 n (f_Ex_goUp (f_Ex_endOrder M) 55) (y1 + 1) else f_Ex_goThrough_L6 n (f_Ex_goUp M 55) (y1 + 1)) else if 89 ≤ (M 55 7) then (if (M 60 (M 55 7).toNatClampNeg) = 0 then f_Ex_goThrough_L6 n (f_Ex_goUp (f_Ex_endOrder M) 55) (y1 + 1) else f_Ex_goThrough_L6 n (f_Ex_goUp M 55) (y1 + 1)) else f_Ex_goThrough_L6 n (f_Ma_advance (f_Ex_goDown M 55 (f_Ma_nextAble M 56 (M 60 (M 55 7).toNatClampNeg))) 56 (f_Ma_nextAble M 56 (M 60 (M 55 7).toNatClampNeg))) (y1 + 1) := by
  rw [f_Ex_goThrough_L6]
  simp only [cs_bd_eq]
theorem pgt_S {n : Nat} {M : cs_Mem} {y1 : Int32} (h : ¬ (M 55 7) < 0 → ¬ 3000 < (M 55 5) → vp_in (M 55 7) (cs_ln M 60) ∧ pre_Ma_nextAble M 56 (M 60 (M 55 7).toNatClampNeg) ∧ (3 ≤ f_Ma_nextAble M 56 (M 60 (M 55 7).toNatClampNeg) → ((M 60 (M 55 7).toNatClampNeg) = 0 → pre_Ex_endOrder M ∧ (cs_ln M 61 ≤ cs_ln (f_Ex_endOrder M ) 61 ∧ cs_ln (f_Ex_endOrder M ) 61 ≤ 4096 ∧ (¬ cs_ln (f_Ex_endOrder M ) 61 = cs_ln M 61 → cs_ln M 61 + 4 ≤ cs_ln (f_Ex_endOrder M ) 61)) ∧ pre_Ex_goUp (f_Ex_endOrder M) 55 ∧ pre_Ex_goThrough_L6 n (f_Ex_goUp (f_Ex_endOrder M) 55) (y1 + 1)) ∧ (¬ (M 60 (M 55 7).toNatClampNeg) = 0 → pre_Ex_goUp M 55 ∧ pre_Ex_goThrough_L6 n (f_Ex_goUp M 55) (y1 + 1))) ∧ (¬ 3 ≤ f_Ma_nextAble M 56 (M 60 (M 55 7).toNatClampNeg) → ¬ 89 ≤ (M 55 7) ∧ pre_Ex_goDown M 55 (f_Ma_nextAble M 56 (M 60 (M 55 7).toNatClampNeg)) ∧ pre_Ma_advance (f_Ex_goDown M 55 (f_Ma_nextAble M 56 (M 60 (M 55 7).toNatClampNeg))) 56 (f_Ma_nextAble M 56 (M 60 (M 55 7).toNatClampNeg)) ∧ pre_Ex_goThrough_L6 n (f_Ma_advance (f_Ex_goDown M 55 (f_Ma_nextAble M 56 (M 60 (M 55 7).toNatClampNeg))) 56 (f_Ma_nextAble M 56 (M 60 (M 55 7).toNatClampNeg))) (y1 + 1))) : pre_Ex_goThrough_L6 (n + 1) M y1 := by
  rw [pre_Ex_goThrough_L6]
  simp only [cs_bd_eq]
  refine ⟨fun _ => trivial, fun _ => ⟨fun _ => trivial, fun h7 => ⟨fun _ => trivial, fun h5 => ?_⟩⟩⟩
  obtain ⟨a1, a2, a3, a4⟩ := h h7 h5
  exact ⟨a1, a2, fun q => ⟨a1, fun z => (a3 q).1 z, fun z => (a3 q).2 z⟩, fun q => ⟨fun z => absurd z (a4 q).1, fun _ => (a4 q).2⟩⟩
/-- the loop's head stops -/
theorem gt_stop {n T : Nat} {M : cs_Mem} (hT : T < 700000) (h : M 55 7 < 0 ∨ 3000 < M 55 5) : pre_Ex_goThrough_L6 (n + 1) M (nI T) ∧ f_Ex_goThrough_L6 (n + 1) M (nI T) = f_Ex_finish M 55 := by
  have c : ¬ (1000000 : Int32) ≤ nI T := by
    rw [show (1000000 : Int32) = nI 1000000 from rfl, nI_leI (by omega) (by omega)]
    omega
  refine ⟨pgt_S (fun a b => (h.elim (fun q => absurd q a) (fun q => absurd q b))), ?_⟩
  rw [gt_S, if_neg c]
  by_cases h7 : M 55 7 < 0
  · rw [if_pos h7]
  · rw [if_neg h7, if_pos (h.resolve_left h7)]
theorem ER.kc {M0 M N : cs_Mem} {P : List (Ms × Nat)} {S : Ms} {y o s o' s' : Nat} {l l' : List Nat} (h : KC M0 M P S y l o s) (e : ER M N l' o' s') : KC M0 N P S y l' o' s' := by
  obtain ⟨h1, h2, h3, h4, h5, h6, h7, h8, h9⟩ := h
  obtain ⟨e1, e2, e3, e4, e5, e6, e7⟩ := e
  refine ⟨fun i i1 i2 i3 i4 i5 i6 i7 => ?_, ?_, ?_, ?_, e1, e2, e3, ?_, ?_⟩
  · rw [e5 i i1 i6 i7]; exact h1 i i1 i2 i3 i4 i5 i6 i7
  · rw [e5 57 (by omega) (by omega) (by omega)]; exact h2
  · rw [e4 7 (by omega) (by omega) (by omega)]; exact h3
  · rw [e5 60 (by omega) (by omega) (by omega)]; exact h4
  · exact KP.congr P h8 (fun i _ => by rw [e5 59 (by omega) (by omega) (by omega)]) (fun i _ => by rw [e5 60 (by omega) (by omega) (by omega)])
  · rw [e5 59 (by omega) (by omega) (by omega)]; exact h9
theorem c_loop {Q M0 : cs_Mem} (hW : WP Q) (hQ : PE Q M0) (K : Nat) : ∀ (n T : Nat) (M : cs_Mem) (P : List (Ms × Nat)) (S : Ms) (y : Nat) (l : List Nat) (o s : Nat), T + n = 600000 → Cfg Q P S y l o s T → KC M0 M P S y l o s → pre_Ex_goThrough_L6 (n + (K + 1)) M (nI T) ∧ Fin0 M0 (f_Ex_goThrough_L6 (n + (K + 1)) M (nI T)) (exL Q n P S y l o s) := by
  intro n
  induction n with
  | zero =>
    intro T M P S y l o s hT hc _
    have := (hc.T hW).2
    omega
  | succ n ih =>
    intro T M P S y l o s hTn hc hk
    obtain ⟨hd, hT⟩ := hc.T hW
    have hQM : PE Q M := fun i hi => (hk.1.pe i hi).trans (hQ i hi)
    have hWM := hQM.wp hW
    have hs := Ch.sg hW P S hc.1
    have hI := hs.1.1
    have hIM := hQM.inv hI
    have hy := hc.2.1
    have hoc := oc_lt hI
    have ho : o ≤ 3000 := hc.2.2.2.2.2.1
    have hll : l.length ≤ o := hc.2.2.2.2.1
    have er : f_Ma_nextAble M 56 (nI y) = nI (mNx Q S y) := (c_nx hWM hIM hk.2.1 hy).trans (congrArg nI (hQM.nx hI))
    have pr : pre_Ma_nextAble M 56 (nI y) := p_nx (Or.inr rfl) hWM hIM hk.2.1 hy
    have e7 := hk.2.2.1
    have e60 := hk.2.2.2.1
    have c : ¬ (1000000 : Int32) ≤ nI T := by
      rw [show (1000000 : Int32) = nI 1000000 from rfl, nI_leI (by omega) (by omega)]
      omega
    have c7 : ¬ nI P.length < 0 := npos (by omega)
    have c5 : ¬ 3000 < nI o := fun q => absurd ((nlt (a := 3000) (by omega) (by omega)).mp q) (by omega)
    have hin : vp_in (nI P.length) (cs_ln M 60) := vp_in_nI (N := 90) (by omega) (by omega)
    rw [show n + 1 + (K + 1) = n + (K + 1) + 1 by omega]
    have fS := gt_S (n + (K + 1)) M (nI T)
    have pS := pgt_S (n := n + (K + 1)) (M := M) (y1 := nI T)
    rw [e7, nI_clamp (by omega), e60, er, hk.2.2.2.2.2.1, if_neg c, if_neg c7, if_neg c5, nI_1] at fS
    rw [e7, nI_clamp (by omega), e60, er, hk.2.2.2.2.2.1, nI_1] at pS
    rw [exL_S]
    by_cases h3 : mNx Q S y = 3
    · have r3 : (3 : Int32) ≤ nI (mNx Q S y) := by rw [h3]; decide
      rw [if_pos r3] at fS
      rw [if_pos h3]
      have hno : no y o ≤ 3001 := by unfold no; split <;> omega
      have hnl : (nl Q S y l).length ≤ no y o := by
        unfold nl no
        split
        · have := (ins_len l (ocN Q S)).1
          omega
        · exact hll
      have up : ∀ M2, KC M0 M2 P S y (nl Q S y l) (no y o) (ns Q S y s) → pre_Ex_goUp M2 55 ∧ pre_Ex_goThrough_L6 (n + (K + 1)) (f_Ex_goUp M2 55) (nI (T + 1)) ∧ Fin0 M0 (f_Ex_goThrough_L6 (n + (K + 1)) (f_Ex_goUp M2 55) (nI (T + 1))) (if 3000 < no y o then none else exU Q n P (nl Q S y l) (no y o) (ns Q S y s)) := by
        intro M2 k2
        cases P with
        | nil =>
          obtain ⟨h1, h2, h3', h4, h5, h6, h7, h8, h9⟩ := k2
          have g := c_goUp0 (M := M2) h3'
          rw [g.2]
          have st := gt_stop (n := n + K) (T := T + 1) (M := cs_up M2 55 (upd (M2 55) 7 (-1))) (by omega) (Or.inl (by rw [cs_up_self, up_s]; exact m1lt0))
          have kx : KX M0 (cs_up M2 55 (upd (M2 55) 7 (-1))) := fun i i1 i2 i3 i4 i5 i6 i7 => by rw [cs_up_ne _ _ i1]; exact h1 i i1 i2 i3 i4 i5 i6 i7
          have q5 : cs_up M2 55 (upd (M2 55) 7 (-1)) 55 5 = nI (no y o) := by rw [cs_up_self, up_n (by omega)]; exact h6
          have fs : FS (cs_up M2 55 (upd (M2 55) 7 (-1))) (nl Q S y l) := ⟨h5.1, by rw [cs_up_self, up_n (by omega)]; exact h5.2.1, h5.2.2⟩
          rw [← Nat.add_assoc, st.2]
          refine ⟨g.1, st.1, ?_⟩
          by_cases w : 3000 < no y o
          · rw [if_pos w]
            exact c_finF kx fs.2.2.1 (Or.inr (by rw [q5]; exact fun q => absurd ((nle (b := 3000) (by omega) (by omega)).mp q) (by omega)))
          · rw [if_neg w]
            exact c_finD kx fs (by omega) (by rw [cs_up_self, up_s]) q5 (by omega) (by rw [cs_up_self, up_n (by omega)]; exact h7)
        | cons q P' =>
          simp at hd
          have g := k2.up (by omega)
          refine ⟨g.1, ?_⟩
          by_cases w : 3000 < no y o
          · have st := gt_stop (n := n + K) (T := T + 1) (M := f_Ex_goUp M2 55) (by omega) (Or.inr (by rw [g.2.2.2.2.2.2.1]; exact (nlt (a := 3000) (by omega) (by omega)).mpr w))
            rw [← Nat.add_assoc, st.2, if_pos w]
            exact ⟨st.1, c_finF g.2.1 g.2.2.2.2.2.1.2.2.1 (Or.inl (by rw [g.2.2.2.1]; exact npos' (by omega)))⟩
          · rw [if_neg w]
            exact ih (T + 1) _ P' q.1 (q.2 + 1) _ _ _ (by omega) (hc.up hW w) g.2
      by_cases y0 : y = 0
      · have y0' : nI y = 0 := by rw [y0]; rfl
        rw [if_pos y0'] at fS
        have en := c_endO hWM hIM hk.2.1 hk.2.2.2.2.1 (by omega) hc.2.2.1 hc.2.2.2.1 hk.2.2.2.2.2.1 hk.2.2.2.2.2.2.1
        have e2 := en.2
        rw [hQM.oc, hQM.sk] at e2
        have k2 := ER.kc hk e2
        have n1 : nl Q S y l = insN l (ocN Q S) := by unfold nl; rw [if_pos y0]
        have n2 : no y o = o + 1 := by unfold no; rw [if_pos y0]
        have n3 : ns Q S y s = s + stk Q S := by unfold ns; rw [if_pos y0]
        rw [← n1, ← n2, ← n3] at k2
        have u := up _ k2
        rw [fS]
        exact ⟨pS (fun _ _ => ⟨hin, pr, fun _ => ⟨fun _ => ⟨en.1, ⟨e2.2.2.2.2.2.1, e2.1.2.2.1.le.2, e2.2.2.2.2.2.2⟩, u.1, u.2.1⟩, fun q => absurd y0' q⟩, fun q => absurd r3 q⟩), u.2.2⟩
      · have y0' : ¬ nI y = 0 := fun q => y0 ((nI0 (by omega)).mp q)
        rw [if_neg y0'] at fS
        have n1 : nl Q S y l = l := by unfold nl; rw [if_neg y0]
        have n2 : no y o = o := by unfold no; rw [if_neg y0]
        have n3 : ns Q S y s = s := by unfold ns; rw [if_neg y0]
        have u := up M (by rw [n1, n2, n3]; exact hk)
        rw [fS]
        exact ⟨pS (fun _ _ => ⟨hin, pr, fun _ => ⟨fun q => absurd q y0', fun _ => ⟨u.1, u.2.1⟩⟩, fun q => absurd r3 q⟩), u.2.2⟩
    · rcases nx_cases (Q := Q) (S := S) (y := y) with q | q
      · exact absurd q h3
      · have r3 : ¬ (3 : Int32) ≤ nI (mNx Q S y) := fun w => absurd ((nle (a := 3) (by omega) (by omega)).mp w) (by omega)
        have hs2 := hs.step hW q.1 q.2
        have hd2 := hs2.1.le hW
        have d89 : ¬ (89 : Int32) ≤ nI P.length := fun w => absurd ((nle (a := 89) (by omega) (by omega)).mp w) (by omega)
        rw [if_neg r3, if_neg d89] at fS
        rw [if_neg h3, fS]
        obtain ⟨g1, g2, g3, g4, g5, g6, g7, g8, g9⟩ := c_goDown hk hy (by omega) q.1
        have hQN : PE Q (f_Ex_goDown M 55 (nI (mNx Q S y))) := fun i hi => (g2.pe i hi).trans (hQ i hi)
        have ad := St.adv (j := 56) (Or.inr rfl) (hQN.wp hW) (hQN.sg hs).1 (show EncC S P.length (f_Ex_goDown M 55 (nI (mNx Q S y)) (56 + 1)) by show EncC S P.length (f_Ex_goDown M 55 (nI (mNx Q S y)) 57); rw [g3]; exact hk.2.1) q.1 (by rw [hQN.eend q.1]; exact (ab_end q.2).1)
        have r := ad.2
        rw [hQN.step hI q.1] at r
        obtain ⟨r1, r2, r4⟩ := r
        have kc : KC M0 (f_Ma_advance (f_Ex_goDown M 55 (nI (mNx Q S y))) 56 (nI (mNx Q S y))) ((S, mNx Q S y) :: P) (mStep Q S (mNx Q S y)) 0 l o s := by
          refine ⟨fun i i1 i2 i3 i4 i5 i6 i7 => ?_, r1, ?_, ?_, ?_, ?_, ?_, ?_, fun w => absurd rfl w⟩
          · rw [r4 i i2 i3]; exact g2 i i1 i2 i3 i4 i5 i6 i7
          · rw [r4 55 (by omega) (by omega)]; exact g4
          · rw [r4 60 (by omega) (by omega)]; exact g5
          · refine ⟨?_, ?_, ?_⟩
            · rw [r4 61 (by omega) (by omega)]; exact g6.1
            · rw [r4 55 (by omega) (by omega)]; exact g6.2.1
            · rw [ln_eq (r4 1000 (by omega) (by omega))]; exact g6.2.2
          · rw [r4 55 (by omega) (by omega)]; exact g7
          · rw [r4 55 (by omega) (by omega)]; exact g8
          · exact KP.congr _ g9 (fun i _ => by rw [r4 59 (by omega) (by omega)]) (fun i _ => by rw [r4 60 (by omega) (by omega)])
        have rc := ih (T + 1) _ ((S, mNx Q S y) :: P) (mStep Q S (mNx Q S y)) 0 l o s (by omega) (hc.down h3) kc
        exact ⟨pS (fun _ _ => ⟨hin, pr, fun w => absurd w r3, fun _ => ⟨d89, g1, ad.1, rc.1⟩⟩), rc.2⟩
def exR (Q : cs_Mem) : Option (List Nat × Nat × Nat) := exL Q 600000 [] msZ 0 [] 0 0
theorem c_bgn {M : cs_Mem} (hp : Pw (cs_ln M 61)) : pre_Ex_begin M 55 ∧ KC M (f_Ex_begin M 55) [] msZ 0 [] 0 0 := by
  have rs := c_restart (M := f_Ex_dropAll M 55) (j := 56) (Or.inr rfl)
  have e : f_Ex_begin M 55 = cs_up (cs_up (f_Ma_restart (f_Ex_dropAll M 55) 56) 55 (upd (f_Ex_dropAll M 55 55) 7 0)) 60 (upd (M 60) 0 0) := by
    unfold f_Ex_begin
    simp only [cs_bd_eq]
    rw [fr_Ma_restart (show 55 ≠ 56 + 1 by omega), cs_up_ne _ _ (show 60 ≠ 55 by omega), fr_Ma_restart (show 60 ≠ 56 + 1 by omega), fr_Ex_dropAll (show 60 ≠ 55 by omega)]
  have e55 : f_Ex_begin M 55 55 = upd (f_Ex_dropAll M 55 55) 7 0 := by rw [e, cs_up_ne _ _ (show 55 ≠ 60 by omega), cs_up_self]
  have d4 : f_Ex_dropAll M 55 55 4 = 0 ∧ f_Ex_dropAll M 55 55 5 = 0 ∧ f_Ex_dropAll M 55 55 6 = 0 := by
    unfold f_Ex_dropAll
    simp only [cs_bd_eq, cs_up_self]
    simp [upd]
  have hl : cs_ln (f_Ex_begin M 55) 61 = cs_ln M 61 := ln_eq (fr_Ex_begin (by omega) (by omega) (by omega))
  refine ⟨?_, fun i i1 i2 i3 i4 i5 i6 i7 => fr_Ex_begin i1 i2 i5, ?_, ?_, ?_, ⟨?_, ?_, ?_, ?_⟩, ?_, ?_, trivial, fun q => absurd rfl q⟩
  · unfold pre_Ex_begin
    simp only [cs_bd_eq]
    exact ⟨rs.1, vp_in_nI (n := 0) (N := 90) (by omega) (by omega), trivial⟩
  · rw [e, cs_up_ne _ _ (show 57 ≠ 60 by omega), cs_up_ne _ _ (show 57 ≠ 55 by omega)]
    exact rs.2
  · rw [e55, up_s]; rfl
  · rw [e, cs_up_self]; exact up_s
  · exact fun i hi => absurd hi (by simp)
  · rw [e55, up_n (by omega), d4.1]; rfl
  · rw [hl]; exact hp
  · exact Nat.zero_le _
  · rw [e55, up_n (by omega), d4.2.1]; rfl
  · rw [e55, up_n (by omega), d4.2.2]; rfl
theorem c_go {Q M : cs_Mem} (hW : WP Q) (hQ : PE Q M) (hp : Pw (cs_ln M 61)) : pre_Ex_goThrough M ∧ Fin0 M (f_Ex_goThrough M) (exR Q) := by
  have b := c_bgn hp
  have r := c_loop hW hQ 400000 600000 0 (f_Ex_begin M 55) [] msZ 0 [] 0 0 (by omega) (Cfg.zero Q) b.2
  rw [show 600000 + (400000 + 1) = 1000001 by omega] at r
  unfold pre_Ex_goThrough f_Ex_goThrough
  simp only [cs_bd_eq]
  exact ⟨⟨b.1, r.1⟩, r.2⟩
