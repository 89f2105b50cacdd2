/-! the class's goThrough is the abstract loop -/
theorem EncC.congr {S : Ms} {k : Nat} {r r' : Nat → Int32} (h : EncC S k r) (e : ∀ i, i < 43 → r' i = r i) : EncC S k r' := by
  obtain ⟨h1, h2, h3, h4, h5, h6, h7, h8⟩ := h
  refine ⟨fun c hc => ?_, fun c hc => ?_, fun f hf => ?_, fun t ht => ?_, fun t ht => ?_, fun t ht c l1 l2 hc q => ?_, ?_, ?_⟩
  · rw [e c (by omega)]; exact h1 c hc
  · rw [e _ (by omega)]; exact h2 c hc
  · rw [e _ (by omega)]; exact h3 f hf
  · rw [e _ (by omega)]; exact h4 t ht
  · rw [e _ (by omega)]; exact h5 t ht
  · rw [e _ (by omega)]; exact h6 t ht c l1 l2 hc q
  · rw [e _ (by omega)]; exact h7
  · rw [e _ (by omega)]; exact h8
def KX (M0 M : cs_Mem) : Prop := ∀ i, i ≠ 55 → i ≠ 57 → i ≠ 58 → i ≠ 59 → i ≠ 60 → i ≠ 61 → i ≠ 1000 → M i = M0 i
def KP (M : cs_Mem) : List (Ms × Nat) → Prop
  | [] => True
  | q :: P => EncC q.1 P.length (fun i => M 59 (43 * P.length + i)) ∧ M 60 P.length = nI (q.2 + 1) ∧ KP M P
theorem KP.congr {M N : cs_Mem} : ∀ (P : List (Ms × Nat)), KP M P → (∀ i, i < 43 * P.length → N 59 i = M 59 i) → (∀ i, i < P.length → N 60 i = M 60 i) → KP N P
  | [], _, _, _ => trivial
  | q :: P, h, e1, e2 => by
    simp at e1 e2
    exact ⟨h.1.congr (fun i hi => e1 _ (by omega)), by rw [e2 _ (by omega)]; exact h.2.1, KP.congr P h.2.2 (fun i hi => e1 i (by omega)) (fun i hi => e2 i (by omega))⟩
def KC (M0 M : cs_Mem) (P : List (Ms × Nat)) (S : Ms) (y : Nat) (l : List Nat) (o s : Nat) : Prop :=
  KX M0 M ∧ EncC S P.length (M 57) ∧ M 55 7 = nI P.length ∧ M 60 P.length = nI y ∧ FS M l ∧ M 55 5 = nI o ∧ M 55 6 = nI s ∧ KP M P ∧ (¬ y = 0 → EncC S P.length (fun i => M 59 (43 * P.length + i)))
def Fin0 (M0 N : cs_Mem) (res : Option (List Nat × Nat × Nat)) : Prop := KX M0 N ∧ N 55 8 = 1 ∧ Pw (cs_ln N 61) ∧ match res with
  | none => N 55 9 = -2 ∧ N 55 4 = 0 ∧ N 55 5 = 0 ∧ N 55 6 = 0
  | some (l, o, s) => N 55 9 = nI l.length ∧ N 55 4 = nI l.length ∧ N 55 5 = nI o ∧ N 55 6 = nI s ∧ FE l (N 61) ∧ l.length ≤ cs_ln N 61 ∧ l.length ≤ 3000
theorem ix43 {d : Nat} (h : d < 1000) : (nI d * 43).toNatClampNeg = 43 * d := by
  rw [show (43 : Int32) = nI 43 from rfl, nI_mul, nI_clamp (by omega)]
  omega
theorem KX.refl (M : cs_Mem) : KX M M := fun _ _ _ _ _ _ _ _ => rfl
theorem KX.pe {M0 M : cs_Mem} (h : KX M0 M) : PE M0 M := fun i hi => h i (by omega) (by omega) (by omega) (by omega) (by omega) (by omega) (by omega)
theorem c_goUp0 {M : cs_Mem} (h : M 55 7 = nI 0) : pre_Ex_goUp M 55 ∧ f_Ex_goUp M 55 = cs_up M 55 (upd (M 55) 7 (-1)) := by
  have e : nI 0 - 1 = -1 := by decide
  unfold pre_Ex_goUp f_Ex_goUp
  simp only [cs_bd_eq]
  rw [h, e, cs_up_self, up_s, if_pos m1lt0]
  exact ⟨⟨fun _ => trivial, fun q => absurd m1lt0 q⟩, rfl⟩
theorem c_goUp1 {M : cs_Mem} {d : Nat} (h : M 55 7 = nI (d + 1)) (hd : d < 89) : pre_Ex_goUp M 55 ∧ f_Ex_goUp M 55 = cs_up (cs_up M 55 (upd (M 55) 7 (nI d))) 57 (va_cpy (M 59) (M 57) (43 * d) 0 43) := by
  have n0 : ¬ nI d < 0 := npos (by omega)
  unfold pre_Ex_goUp f_Ex_goUp pre_Ma_bringBack f_Ma_bringBack
  simp only [cs_bd_eq]
  rw [h, nI_pred, cs_up_self, up_s, if_neg n0, ix43 (by omega), cs_up_ne _ _ (show 59 ≠ 55 by omega), cs_up_ne _ _ (show 56 + 1 ≠ 55 by omega)]
  refine ⟨⟨fun q => absurd q n0, fun _ => ⟨⟨?_, by decide, by decide, ?_, ?_, trivial⟩, trivial⟩⟩, rfl⟩
  · rw [show (43 : Int32) = nI 43 from rfl, nI_mul]
    exact npos (by omega)
  · show 43 * d + 43 ≤ 3827
    omega
  · show 0 + 43 ≤ 43
    omega
theorem KC.up {M0 M : cs_Mem} {P : List (Ms × Nat)} {q : Ms × Nat} {S : Ms} {y o s : Nat} {l : List Nat} (h : KC M0 M (q :: P) S y l o s) (hd : P.length < 89) : pre_Ex_goUp M 55 ∧ KC M0 (f_Ex_goUp M 55) P q.1 (q.2 + 1) l o s := by
  obtain ⟨h1, h2, h3, h4, h5, h6, h7, h8, h9⟩ := h
  have g := c_goUp1 (d := P.length) h3 hd
  rw [g.2]
  have e57 : ∀ i, i < 43 → va_cpy (M 59) (M 57) (43 * P.length) 0 43 i = M 59 (43 * P.length + i) := fun i hi => by
    unfold va_cpy
    rw [if_pos (by omega)]
    exact congrArg (M 59) (by omega)
  refine ⟨g.1, ?_, ?_, ?_, ?_, ?_, ?_, ?_, ?_, ?_⟩
  · intro i i1 i2 i3 i4 i5 i6 i7
    rw [cs_up_ne _ _ i2, cs_up_ne _ _ i1]
    exact h1 i i1 i2 i3 i4 i5 i6 i7
  · rw [cs_up_self]
    exact h8.1.congr e57
  · rw [cs_up_ne _ _ (show 55 ≠ 57 by omega), cs_up_self, up_s]
  · exact h8.2.1
  · refine ⟨h5.1, ?_, h5.2.2⟩
    rw [cs_up_ne _ _ (show 55 ≠ 57 by omega), cs_up_self, up_n (by omega)]
    exact h5.2.1
  · rw [cs_up_ne _ _ (show 55 ≠ 57 by omega), cs_up_self, up_n (by omega)]
    exact h6
  · rw [cs_up_ne _ _ (show 55 ≠ 57 by omega), cs_up_self, up_n (by omega)]
    exact h7
  · exact KP.congr P h8.2.2 (fun i _ => rfl) (fun i _ => rfl)
  · intro _
    exact h8.1
theorem c_goDown {M0 M : cs_Mem} {P : List (Ms × Nat)} {S : Ms} {y o s t : Nat} {l : List Nat} (h : KC M0 M P S y l o s) (hy : y ≤ 3) (hd : P.length < 89) (ht : t < 3) : pre_Ex_goDown M 55 (nI t) ∧ KX M0 (f_Ex_goDown M 55 (nI t)) ∧ f_Ex_goDown M 55 (nI t) 57 = M 57 ∧ f_Ex_goDown M 55 (nI t) 55 7 = nI (P.length + 1) ∧ f_Ex_goDown M 55 (nI t) 60 (P.length + 1) = nI 0 ∧ FS (f_Ex_goDown M 55 (nI t)) l ∧ f_Ex_goDown M 55 (nI t) 55 5 = nI o ∧ f_Ex_goDown M 55 (nI t) 55 6 = nI s ∧ KP (f_Ex_goDown M 55 (nI t)) ((S, t) :: P) := by
  obtain ⟨h1, h2, h3, h4, h5, h6, h7, h8, h9⟩ := h
  -- the tail of goDown on a memory whose row 59 keeps the state
  have tail : ∀ N : cs_Mem, (∀ i, i ≠ 59 → N i = M i) → (∀ i, i < 43 * P.length → N 59 i = M 59 i) → EncC S P.length (fun i => N 59 (43 * P.length + i)) → pre_Ex_goDown_J30 N 55 (nI t) ∧ KX M0 (f_Ex_goDown_J30 N 55 (nI t)) ∧ f_Ex_goDown_J30 N 55 (nI t) 57 = M 57 ∧ f_Ex_goDown_J30 N 55 (nI t) 55 7 = nI (P.length + 1) ∧ f_Ex_goDown_J30 N 55 (nI t) 60 (P.length + 1) = nI 0 ∧ FS (f_Ex_goDown_J30 N 55 (nI t)) l ∧ f_Ex_goDown_J30 N 55 (nI t) 55 5 = nI o ∧ f_Ex_goDown_J30 N 55 (nI t) 55 6 = nI s ∧ KP (f_Ex_goDown_J30 N 55 (nI t)) ((S, t) :: P) := by
    intro N n1 n2 n3
    have e55 : N 55 = M 55 := n1 55 (by omega)
    have e60 : N 60 = M 60 := n1 60 (by omega)
    have e : f_Ex_goDown_J30 N 55 (nI t) = cs_up (cs_up (cs_up N 60 (upd (M 60) P.length (nI (t + 1)))) 55 (upd (M 55) 7 (nI (P.length + 1)))) 60 (upd (upd (M 60) P.length (nI (t + 1))) (P.length + 1) 0) := by
      unfold f_Ex_goDown_J30
      simp only [cs_bd_eq]
      rw [e55, h3, nI_clamp (n := P.length) (by omega), e60, nI_1, cs_up_ne _ _ (show 55 ≠ 60 by omega), e55, h3, nI_1, cs_up_ne _ _ (show 60 ≠ 55 by omega), cs_up_self, cs_up_self, up_s, nI_clamp (by omega)]
    have p : pre_Ex_goDown_J30 N 55 (nI t) := by
      unfold pre_Ex_goDown_J30
      simp only [cs_bd_eq]
      rw [e55, h3, cs_up_ne _ _ (show 55 ≠ 60 by omega), e55, h3, cs_up_self, up_s, nI_1 P.length]
      exact ⟨vp_in_nI (N := 90) (by omega) (by omega), vp_in_nI (N := 90) (by omega) (by omega), trivial⟩
    rw [e]
    refine ⟨p, ?_, ?_, ?_, ?_, ?_, ?_, ?_, ?_⟩
    · intro i i1 i2 i3 i4 i5 i6 i7
      rw [cs_up_ne _ _ i5, cs_up_ne _ _ i1, cs_up_ne _ _ i5, n1 i i4]
      exact h1 i i1 i2 i3 i4 i5 i6 i7
    · rw [cs_up_ne _ _ (show 57 ≠ 60 by omega), cs_up_ne _ _ (show 57 ≠ 55 by omega), cs_up_ne _ _ (show 57 ≠ 60 by omega)]
      exact n1 57 (by omega)
    · rw [cs_up_ne _ _ (show 55 ≠ 60 by omega), cs_up_self, up_s]
    · rw [cs_up_self, up_s]
      rfl
    · have l1 : cs_ln (cs_up (cs_up (cs_up N 60 (upd (M 60) P.length (nI (t + 1)))) 55 (upd (M 55) 7 (nI (P.length + 1)))) 60 (upd (upd (M 60) P.length (nI (t + 1))) (P.length + 1) 0)) 61 = cs_ln M 61 := ln_eq (n1 1000 (by omega))
      refine ⟨?_, ?_, by rw [l1]; exact h5.2.2⟩
      · show FE l (N 61)
        rw [n1 61 (by omega)]
        exact h5.1
      · rw [cs_up_ne _ _ (show 55 ≠ 60 by omega), cs_up_self, up_n (by omega)]
        exact h5.2.1
    · rw [cs_up_ne _ _ (show 55 ≠ 60 by omega), cs_up_self, up_n (by omega)]
      exact h6
    · rw [cs_up_ne _ _ (show 55 ≠ 60 by omega), cs_up_self, up_n (by omega)]
      exact h7
    · refine ⟨n3, ?_, KP.congr P h8 n2 (fun i hi => ?_)⟩
      · rw [cs_up_self, up_n (by omega), up_s]
      · rw [cs_up_self, up_n (by omega), up_n (by omega)]
  have i60 : vp_in (nI P.length) (cs_ln M 60) := vp_in_nI (N := 90) (by omega) (by omega)
  unfold pre_Ex_goDown f_Ex_goDown pre_Ma_keepIn f_Ma_keepIn
  simp only [cs_bd_eq]
  rw [h3, nI_clamp (by omega), h4, ix43 (by omega)]
  by_cases y0 : y = 0
  · have y0' : nI y = 0 := by rw [y0]; rfl
    have c1 : ∀ i, i < 43 * P.length → va_cpy (M 57) (M 59) 0 (43 * P.length) 43 i = M 59 i := fun i hi => by
      unfold va_cpy
      rw [if_neg (by omega)]
    have c2 : ∀ i, i < 43 → va_cpy (M 57) (M 59) 0 (43 * P.length) 43 (43 * P.length + i) = M 57 i := fun i hi => by
      unfold va_cpy
      rw [if_pos (by omega)]
      exact congrArg (M 57) (by omega)
    have r := tail (cs_up M 59 (va_cpy (M 57) (M 59) 0 (43 * P.length) 43)) (fun i hi => cs_up_ne _ _ hi) (fun i hi => by rw [cs_up_self]; exact c1 i hi) (h2.congr (fun i hi => by rw [cs_up_self]; exact c2 i hi))
    rw [if_pos y0']
    refine ⟨⟨i60, fun _ => ⟨⟨by decide, ?_, by decide, ?_, ?_, trivial⟩, r.1⟩, fun q => absurd y0' q⟩, r.2⟩
    · rw [show (43 : Int32) = nI 43 from rfl, nI_mul]
      exact npos (by omega)
    · show 0 + 43 ≤ 43
      omega
    · show 43 * P.length + 43 ≤ 3827
      omega
  · have y0' : ¬ nI y = 0 := fun q => y0 ((nI0 (by omega)).mp q)
    have r := tail M (fun _ _ => rfl) (fun _ _ => rfl) (h9 y0)
    rw [if_neg y0']
    exact ⟨⟨i60, fun q => absurd q y0', fun _ => r.1⟩, r.2⟩
