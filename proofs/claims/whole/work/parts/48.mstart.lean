/-! the reference's beginning, and its replay -/
theorem m_fin2 {M : cs_Mem} {S : Ms} {t : Nat} (hW : WP M) (hP : PRel M) (hE : EncB S M) (h84 : M 84 t = -1) (ht : t < 3) (hf : mFl S t = 0) (hb : mPr S (8 + t) < 1000) (hl : (mSk S t).length ≤ 8) : pre_Mo_finish M 62 (nI t) ∧ KM M (f_Mo_finish M 62 (nI t)) ∧ EncB S (f_Mo_finish M 62 (nI t)) ∧ (f_Mo_finish M 62 (nI t) 84 t = if mEnd M S t = true then nI (mFl S t) else -1) ∧ ∀ u, u ≠ t → f_Mo_finish M 62 (nI t) 84 u = M 84 u := by
  have b4 := hE.2.2.2.1 t ht
  have h75 := (hP.2.2.2.2.1 t ht).1
  have hL := (wpL hW (f := 8 + t) (by omega)).2.2
  have h83 := hE.2.2.2.2.2.1 t ht
  rw [if_pos (Or.inr hf)] at h83
  have ix : ((9 : Int32) * nI t).toNatClampNeg = 9 * t := by rw [show (9 : Int32) = nI 9 from rfl, nI_mul]; exact nI_clamp (by omega)
  have i81 : vp_in (9 * nI t) (cs_ln M 81) := by rw [show (9 : Int32) = nI 9 from rfl, nI_mul]; exact vp_in_nI (N := 27) (by omega) (by omega)
  have i3 : ∀ r, cs_ln M r = 3 → vp_in (nI t) (cs_ln M r) := fun r q => by rw [q]; exact vp_in_nI ht (by omega)
  have hm : ¬ (0 : Int32) ≤ -1 := by decide
  unfold pre_Mo_finish f_Mo_finish
  simp only [cs_bd_eq]
  rw [nI_clamp (by omega), ix, b4.1, b4.2.2, h75, h83, h84]
  by_cases hs : mSk S t = []
  · have e1 : nI ((mSk S t).length + 1) = 1 := by rw [hs]; rfl
    rw [e1, if_pos rfl]
    by_cases hp : mPr S (8 + t) < pgL M (8 + t)
    · have hp' : nI (mPr S (8 + t)) < nI (pgL M (8 + t)) := (nlt (by omega) (by omega)).mpr hp
      have he : mEnd M S t = false := by
        unfold mEnd
        rw [hs]
        simp [hf]
        omega
      rw [if_pos hp', he]
      exact ⟨⟨i3 82 rfl, fun _ => ⟨i81, i3 75 rfl, fun _ => trivial, fun q => absurd hp' q⟩, fun q => absurd rfl q⟩, KM.refl M, hE, h84, fun _ _ => rfl⟩
    · have hp' : ¬ nI (mPr S (8 + t)) < nI (pgL M (8 + t)) := fun q => hp ((nlt (by omega) (by omega)).mp q)
      have he : mEnd M S t = true := by
        unfold mEnd
        rw [hs]
        simp [hf]
        omega
      rw [if_neg hp', if_neg hm, if_neg hm, he]
      refine ⟨⟨i3 82 rfl, fun _ => ⟨i81, i3 75 rfl, fun _ => trivial, fun _ => ⟨i3 83 rfl, fun _ => trivial, fun _ => ⟨i3 84 rfl, fun _ => trivial, fun _ => ⟨i3 84 rfl, trivial⟩⟩⟩⟩, fun _ => trivial⟩, KM.up (by omega) (by omega), B_84 hE, ?_, fun u hu => ?_⟩
      · rw [cs_up_self, up_s, hf]
        rfl
      · rw [cs_up_self, up_n hu]
  · have e1 : ¬ nI ((mSk S t).length + 1) = 1 := by
      intro q
      have := (neq (b := 1) (by omega) (by omega)).mp q
      exact hs (List.length_eq_zero_iff.mp (by omega))
    have he : mEnd M S t = false := by
      unfold mEnd
      cases h : mSk S t with
      | nil => exact absurd h hs
      | cons c l => rfl
    rw [if_neg e1, he]
    exact ⟨⟨i3 82 rfl, fun q => absurd q e1, fun _ => trivial⟩, KM.refl M, hE, h84, fun _ _ => rfl⟩
def Z1 (M : cs_Mem) (i : Nat) : Prop := ∀ c, c < i → M 78 c = 0 ∧ M 79 (2 * c) = 0 ∧ M 79 (2 * c + 1) = M 64 c
def Z2 (M : cs_Mem) (i : Nat) : Prop := ∀ t, t < i → M 82 t = 1 ∧ M 80 (9 * t) = -1 ∧ M 81 (9 * t) = 0 ∧ M 83 t = -1 ∧ M 84 t = -1
theorem sL107_S (n : Nat) (M : cs_Mem) (j : Nat) (y1 : Int32) : f_Mo_start_L107 (n + 1) M j y1 = if 3 ≤ y1 then M else f_Mo_start_L107 n (f_Mo_finish M j y1) j (y1 + 1) := by
  show (if _ then _ else cs_bd _ fun u25 => cs_bd _ _) = _
  simp only [cs_bd_eq]
theorem psL107_S (n : Nat) (M : cs_Mem) (j : Nat) (y1 : Int32) : pre_Mo_start_L107 (n + 1) M j y1 ↔ (3 ≤ y1 → True) ∧ (¬ 3 ≤ y1 → pre_Mo_finish M j y1 ∧ pre_Mo_start_L107 n (f_Mo_finish M j y1) j (y1 + 1)) := by
  show ((_ → True) ∧ (_ → _ ∧ cs_bd _ fun u25 => cs_bd _ _)) ↔ _
  simp only [cs_bd_eq]
theorem m_st3 : ∀ (n i : Nat) (M : cs_Mem), WP M → PRel M → 3 ≤ n + i → i ≤ 3 → EncB msZ M → (∀ u, u < 3 → M 84 u = if u < i ∧ mEnd M msZ u = true then 0 else -1) → pre_Mo_start_L107 (n + 1) M 62 (nI i) ∧ KM M (f_Mo_start_L107 (n + 1) M 62 (nI i)) ∧ EncM msZ (f_Mo_start_L107 (n + 1) M 62 (nI i)) := by
  intro n
  induction n with
  | zero =>
    intro i M hW hP h1 h2 hB h84
    have : i = 3 := by omega
    subst this
    rw [sL107_S, psL107_S, if_pos (show (3 : Int32) ≤ nI 3 by decide)]
    refine ⟨⟨fun _ => trivial, fun q => absurd (show (3 : Int32) ≤ nI 3 by decide) q⟩, KM.refl M, hB, fun u hu => ?_⟩
    rw [h84 u hu]
    cases he : mEnd M msZ u with
    | true => rw [if_pos ⟨hu, rfl⟩]; rfl
    | false => rw [if_neg (fun q => by cases q.2)]; rfl
  | succ n ih =>
    intro i M hW hP h1 h2 hB h84
    by_cases h3 : i = 3
    · subst h3
      rw [sL107_S, psL107_S, if_pos (show (3 : Int32) ≤ nI 3 by decide)]
      refine ⟨⟨fun _ => trivial, fun q => absurd (show (3 : Int32) ≤ nI 3 by decide) q⟩, KM.refl M, hB, fun u hu => ?_⟩
      rw [h84 u hu]
      cases he : mEnd M msZ u with
      | true => rw [if_pos ⟨hu, rfl⟩]; rfl
      | false => rw [if_neg (fun q => by cases q.2)]; rfl
    · have c3 : ¬ (3 : Int32) ≤ nI i := fun q => absurd ((nle (a := 3) (by omega) (by omega)).mp q) (by omega)
      rw [sL107_S, psL107_S, if_neg c3, nI_1]
      have f := m_fin2 (t := i) hW hP hB (by rw [h84 i (by omega), if_neg (by omega)]) (by omega) rfl (show 0 < 1000 by omega) (show 0 ≤ 8 by omega)
      have pe := f.2.1.pe
      have r := ih (i + 1) (f_Mo_finish M 62 (nI i)) (pe.wp hW) (f.2.1.prel hW hP) (by omega) (by omega) f.2.2.1 (fun u hu => by
        rw [pe.eend hu]
        by_cases q : u = i
        · subst q
          rw [f.2.2.2.1]
          cases he : mEnd M msZ u with
          | true => rw [if_pos rfl, if_pos ⟨by omega, rfl⟩]; rfl
          | false => rw [if_neg (fun w => by cases w), if_neg (fun w => by cases w.2)]
        · rw [f.2.2.2.2 u q, h84 u hu]
          by_cases w : u < i
          · cases he : mEnd M msZ u with
            | true => rw [if_pos ⟨w, rfl⟩, if_pos ⟨by omega, rfl⟩]
            | false => rw [if_neg (fun w => by cases w.2), if_neg (fun w => by cases w.2)]
          · rw [if_neg (fun x => w x.1), if_neg (fun x => by have := x.1; omega)])
      exact ⟨⟨fun _ => trivial, fun _ => ⟨f.1, r.1⟩⟩, f.2.1.trans r.2.1, r.2.2⟩
theorem sL48_S (n : Nat) (M : cs_Mem) (y1 : Int32) : f_Mo_start_L48 (n + 1) M 62 y1 = if 3 ≤ y1 then f_Mo_start_L107 10 (cs_up M 62 (upd (M 62) 26 0)) 62 0 else f_Mo_start_L48 n (cs_up (cs_up (cs_up (cs_up (cs_up M 82 (upd (M 82) y1.toNatClampNeg 1)) 80 (upd (M 80) (9 * y1).toNatClampNeg (-1))) 81 (upd (M 81) (9 * y1).toNatClampNeg 0)) 83 (upd (M 83) y1.toNatClampNeg (-1))) 84 (upd (M 84) y1.toNatClampNeg (-1))) 62 (y1 + 1) := by
  show (if _ then cs_bd _ _ else cs_bd _ fun _ => cs_bd _ fun _ => cs_bd _ fun _ => cs_bd _ fun _ => cs_bd _ fun _ => cs_bd _ _) = _
  simp only [cs_bd_eq]
  rfl
theorem psL48_S (n : Nat) (M : cs_Mem) (t : Nat) (ht : t ≤ 3) : (3 ≤ t → pre_Mo_start_L107 10 (cs_up M 62 (upd (M 62) 26 0)) 62 0) → (t < 3 → pre_Mo_start_L48 n (cs_up (cs_up (cs_up (cs_up (cs_up M 82 (upd (M 82) (nI t).toNatClampNeg 1)) 80 (upd (M 80) (9 * nI t).toNatClampNeg (-1))) 81 (upd (M 81) (9 * nI t).toNatClampNeg 0)) 83 (upd (M 83) (nI t).toNatClampNeg (-1))) 84 (upd (M 84) (nI t).toNatClampNeg (-1))) 62 (nI t + 1)) → pre_Mo_start_L48 (n + 1) M 62 (nI t) := by
  intro g1 g2
  show ((_ → cs_bd _ _) ∧ (_ → _ ∧ cs_bd _ fun _ => _ ∧ cs_bd _ fun _ => _ ∧ cs_bd _ fun _ => _ ∧ cs_bd _ fun _ => _ ∧ cs_bd _ fun _ => cs_bd _ _))
  simp only [cs_bd_eq]
  refine ⟨fun q => g1 ((nle (a := 3) (by omega) (by omega)).mp q), fun q => ?_⟩
  have h3 : t < 3 := by
    have : ¬ 3 ≤ t := fun w => q ((nle (a := 3) (by omega) (by omega)).mpr w)
    omega
  have i9 : vp_in (9 * nI t) 27 := by rw [show (9 : Int32) = nI 9 from rfl, nI_mul]; exact vp_in_nI (by omega) (by omega)
  exact ⟨vp_in_nI (N := 3) h3 (by omega), i9, i9, vp_in_nI (N := 3) h3 (by omega), vp_in_nI (N := 3) h3 (by omega), g2 h3⟩
theorem m_st2 : ∀ (n i : Nat) (M : cs_Mem), WP M → PRel M → 3 ≤ n + i → i ≤ 3 → Z1 M 8 → Z2 M i → pre_Mo_start_L48 (n + 1) M 62 (nI i) ∧ KM M (f_Mo_start_L48 (n + 1) M 62 (nI i)) ∧ EncM msZ (f_Mo_start_L48 (n + 1) M 62 (nI i)) := by
  have fin : ∀ (M : cs_Mem), WP M → PRel M → Z1 M 8 → Z2 M 3 → pre_Mo_start_L107 10 (cs_up M 62 (upd (M 62) 26 0)) 62 0 ∧ KM M (f_Mo_start_L107 10 (cs_up M 62 (upd (M 62) 26 0)) 62 0) ∧ EncM msZ (f_Mo_start_L107 10 (cs_up M 62 (upd (M 62) 26 0)) 62 0) := by
    intro M hW hP z1 z2
    have k : KM M (cs_up M 62 (upd (M 62) 26 0)) := KM.up62
    have hB : EncB msZ (cs_up M 62 (upd (M 62) 26 0)) := by
      refine ⟨fun c hc => (z1 c hc).1, fun c hc => (z1 c hc).2.1, fun c hc => (z1 c hc).2.2, fun t ht => ⟨(z2 t ht).1, (z2 t ht).2.1, (z2 t ht).2.2.1⟩, fun t ht c l1 l2 e => ?_, fun t ht => (z2 t ht).2.2.2.1, ?_, fun i hi => ?_⟩
      · have : ([] : List Nat) = l1 ++ c :: l2 := e
        simp at this
      · show upd (M 62) 26 0 26 = _
        rw [up_s]
        rfl
      · have : i < 0 := hi
        omega
    have r := m_st3 9 0 _ (k.pe.wp hW) (k.prel hW hP) (by omega) (by omega) hB (fun u hu => by rw [if_neg (by omega)]; exact (z2 u hu).2.2.2.2)
    exact ⟨r.1, k.trans r.2.1, r.2.2⟩
  intro n
  induction n with
  | zero =>
    intro i M hW hP h1 h2 z1 z2
    have : i = 3 := by omega
    subst this
    have f := fin M hW hP z1 z2
    rw [sL48_S, if_pos (show (3 : Int32) ≤ nI 3 by decide)]
    exact ⟨psL48_S 0 M 3 (by omega) (fun _ => f.1) (fun q => by omega), f.2⟩
  | succ n ih =>
    intro i M hW hP h1 h2 z1 z2
    by_cases h3 : i = 3
    · subst h3
      have f := fin M hW hP z1 z2
      rw [sL48_S, if_pos (show (3 : Int32) ≤ nI 3 by decide)]
      exact ⟨psL48_S (n + 1) M 3 (by omega) (fun _ => f.1) (fun q => by omega), f.2⟩
    · have c3 : ¬ (3 : Int32) ≤ nI i := fun q => absurd ((nle (a := 3) (by omega) (by omega)).mp q) (by omega)
      have e9 : ((9 : Int32) * nI i).toNatClampNeg = 9 * i := by rw [show (9 : Int32) = nI 9 from rfl, nI_mul]; exact nI_clamp (by omega)
      have eqn := sL48_S (n + 1) M (nI i)
      have peq := psL48_S (n + 1) M i h2
      rw [if_neg c3, nI_1, nI_clamp (by omega), e9] at eqn
      rw [nI_1, nI_clamp (by omega), e9] at peq
      have k : KM M (cs_up (cs_up (cs_up (cs_up (cs_up M 82 (upd (M 82) i 1)) 80 (upd (M 80) (9 * i) (-1))) 81 (upd (M 81) (9 * i) 0)) 83 (upd (M 83) i (-1))) 84 (upd (M 84) i (-1))) := ((((KM.up (by omega) (by omega)).trans (KM.up (by omega) (by omega))).trans (KM.up (by omega) (by omega))).trans (KM.up (by omega) (by omega))).trans (KM.up (by omega) (by omega))
      have r := ih (i + 1) _ (k.pe.wp hW) (k.prel hW hP) (by omega) (by omega) z1 (fun t ht => by
        show upd (M 82) i 1 t = 1 ∧ upd (M 80) (9 * i) (-1) (9 * t) = -1 ∧ upd (M 81) (9 * i) 0 (9 * t) = 0 ∧ upd (M 83) i (-1) t = -1 ∧ upd (M 84) i (-1) t = -1
        by_cases q : t = i
        · rw [q, up_s, up_s, up_s, up_s, up_s]
          exact ⟨rfl, rfl, rfl, rfl, rfl⟩
        · rw [up_n q, up_n (by omega), up_n (by omega), up_n q, up_n q]
          exact z2 t (by omega))
      rw [eqn]
      exact ⟨peq (fun q => by omega) (fun _ => r.1), k.trans r.2.1, r.2.2⟩
theorem sL2_S (n : Nat) (M : cs_Mem) (y1 : Int32) : f_Mo_start_L2 (n + 1) M 62 y1 = if 8 ≤ y1 then f_Mo_start_L48 10 M 62 0 else f_Mo_start_L2 n (cs_up (cs_up (cs_up M 78 (upd (M 78) y1.toNatClampNeg 0)) 79 (upd (M 79) (2 * y1).toNatClampNeg 0)) 79 (upd (upd (M 79) (2 * y1).toNatClampNeg 0) ((2 * y1) + 1).toNatClampNeg (M 64 y1.toNatClampNeg))) 62 (y1 + 1) := by
  show (if _ then _ else cs_bd _ fun _ => cs_bd _ fun _ => cs_bd _ fun _ => cs_bd _ _) = _
  simp only [cs_bd_eq]
  rfl
theorem psL2_S (n : Nat) (M : cs_Mem) (t : Nat) (ht : t ≤ 8) : (8 ≤ t → pre_Mo_start_L48 10 M 62 0) → (t < 8 → pre_Mo_start_L2 n (cs_up (cs_up (cs_up M 78 (upd (M 78) (nI t).toNatClampNeg 0)) 79 (upd (M 79) (2 * nI t).toNatClampNeg 0)) 79 (upd (upd (M 79) (2 * nI t).toNatClampNeg 0) ((2 * nI t) + 1).toNatClampNeg (M 64 (nI t).toNatClampNeg))) 62 (nI t + 1)) → pre_Mo_start_L2 (n + 1) M 62 (nI t) := by
  intro g1 g2
  show ((_ → _) ∧ (_ → _ ∧ cs_bd _ fun _ => _ ∧ cs_bd _ fun _ => _ ∧ _ ∧ cs_bd _ fun _ => cs_bd _ _))
  simp only [cs_bd_eq]
  refine ⟨fun q => g1 ((nle (a := 8) (by omega) (by omega)).mp q), fun q => ?_⟩
  have h3 : t < 8 := by
    have : ¬ 8 ≤ t := fun w => q ((nle (a := 8) (by omega) (by omega)).mpr w)
    omega
  exact ⟨vp_in_nI (N := 8) h3 (by omega), in2' (n := 16) (by omega) (by omega), vp_in_nI (N := 8) h3 (by omega), in2 (i := 1) (n := 16) (by omega) (by omega), g2 h3⟩
theorem m_st1 : ∀ (n i : Nat) (M : cs_Mem), WP M → PRel M → 8 ≤ n + i → i ≤ 8 → Z1 M i → pre_Mo_start_L2 (n + 1) M 62 (nI i) ∧ KM M (f_Mo_start_L2 (n + 1) M 62 (nI i)) ∧ EncM msZ (f_Mo_start_L2 (n + 1) M 62 (nI i)) := by
  intro n
  induction n with
  | zero =>
    intro i M hW hP h1 h2 z1
    have : i = 8 := by omega
    subst this
    have f := m_st2 9 0 M hW hP (by omega) (by omega) z1 (fun t ht => by omega)
    rw [sL2_S, if_pos (show (8 : Int32) ≤ nI 8 by decide)]
    exact ⟨psL2_S 0 M 8 (by omega) (fun _ => f.1) (fun q => by omega), f.2⟩
  | succ n ih =>
    intro i M hW hP h1 h2 z1
    by_cases h3 : i = 8
    · subst h3
      have f := m_st2 9 0 M hW hP (by omega) (by omega) z1 (fun t ht => by omega)
      rw [sL2_S, if_pos (show (8 : Int32) ≤ nI 8 by decide)]
      exact ⟨psL2_S (n + 1) M 8 (by omega) (fun _ => f.1) (fun q => by omega), f.2⟩
    · have c3 : ¬ (8 : Int32) ≤ nI i := fun q => absurd ((nle (a := 8) (by omega) (by omega)).mp q) (by omega)
      have eqn := sL2_S (n + 1) M (nI i)
      have peq := psL2_S (n + 1) M i h2
      have e1 : ((2 : Int32) * nI i + 1).toNatClampNeg = 2 * i + 1 := ix2 (i := 1) (by omega) (by omega)
      rw [if_neg c3, nI_1, nI_clamp (by omega), e1, ix2' (by omega)] at eqn
      rw [nI_1, nI_clamp (by omega), e1, ix2' (by omega)] at peq
      have k : KM M (cs_up (cs_up (cs_up M 78 (upd (M 78) i 0)) 79 (upd (M 79) (2 * i) 0)) 79 (upd (upd (M 79) (2 * i) 0) (2 * i + 1) (M 64 i))) := ((KM.up (by omega) (by omega)).trans (KM.up (by omega) (by omega))).trans (KM.up (by omega) (by omega))
      have r := ih (i + 1) _ (k.pe.wp hW) (k.prel hW hP) (by omega) (by omega) (fun c hc => by
        show upd (M 78) i 0 c = 0 ∧ upd (upd (M 79) (2 * i) 0) (2 * i + 1) (M 64 i) (2 * c) = 0 ∧ upd (upd (M 79) (2 * i) 0) (2 * i + 1) (M 64 i) (2 * c + 1) = M 64 c
        by_cases q : c = i
        · rw [q, up_s, up_s, up_n (by omega), up_s]
          exact ⟨rfl, rfl, rfl⟩
        · rw [up_n q, up_n (by omega), up_n (by omega), up_n (by omega), up_n (by omega)]
          exact z1 c (by omega))
      rw [eqn]
      exact ⟨peq (fun q => by omega) (fun _ => r.1), k.trans r.2.1, r.2.2⟩
theorem m_start {M : cs_Mem} (hW : WP M) (hP : PRel M) : pre_Mo_start M 62 ∧ KM M (f_Mo_start M 62) ∧ EncM msZ (f_Mo_start M 62) := m_st1 9 0 M hW hP (by omega) (by omega) (fun c hc => by omega)
