/-! the reference's doing methods -/
def KM (M N : cs_Mem) : Prop := (∀ i, (i < 62 ∨ (62 < i ∧ i < 78) ∨ 85 < i) → N i = M i) ∧ ∀ k, k ≠ 26 → N 62 k = M 62 k
theorem KM.refl (M : cs_Mem) : KM M M := ⟨fun _ _ => rfl, fun _ _ => rfl⟩
theorem KM.trans {M N O : cs_Mem} (h : KM M N) (g : KM N O) : KM M O := ⟨fun i hi => (g.1 i hi).trans (h.1 i hi), fun k hk => (g.2 k hk).trans (h.2 k hk)⟩
theorem KM.up {M : cs_Mem} {r : Nat} {g : Nat → Int32} (h1 : 78 ≤ r) (h2 : r ≤ 85) : KM M (cs_up M r g) := ⟨fun i hi => cs_up_ne _ _ (by omega), fun k _ => by rw [cs_up_ne _ _ (by omega)]⟩
theorem KM.up62 {M : cs_Mem} {x : Int32} : KM M (cs_up M 62 (upd (M 62) 26 x)) := ⟨fun i hi => cs_up_ne _ _ (by omega), fun k hk => by rw [cs_up_self]; exact up_n hk⟩
theorem KM.pe {M N : cs_Mem} (h : KM M N) : PE M N := fun i hi => h.1 i (Or.inl (by omega))
theorem KM.prel {M N : cs_Mem} (h : KM M N) (hW : WP M) (hP : PRel M) : PRel N := by
  have pe := h.pe
  have r : ∀ i, (i < 62 ∨ (62 < i ∧ i < 78)) → N i = M i := fun i hi => h.1 i (by omega)
  have eul : ∀ c, ul N c = ul M c := fun c => by unfold ul; rw [r 63 (by omega), r 65 (by omega), r 70 (by omega), r 71 (by omega)]
  obtain ⟨p1, p2, p3, p4, p5, p6⟩ := hP
  refine ⟨?_, fun c hc => ?_, fun c h1 h2 => ?_, fun c hc => ?_, fun t ht => ?_, fun f hf i hi => ?_⟩
  · rw [h.2 0 (by omega), r 1 (by omega)]; exact p1
  · rw [r 68 (by omega), r 2 (by omega), r 69 (by omega), r 3 (by omega), r 64 (by omega), r 4 (by omega), r 65 (by omega), r 6 (by omega), r 67 (by omega), r 70 (by omega), r 5 (by omega), pe.L (by omega), pe.U (by omega)]
    exact p2 c hc
  · rw [pe.N] at h1
    rw [r 3 (by omega), r 65 (by omega), pe.L (by omega)]
    exact p3 c h1 h2
  · rw [pe.N] at hc
    have hn := (wpN hW).2
    rw [pe.U (by omega), eul, r 2 (by omega), r 63 (by omega), r 65 (by omega)]
    refine ⟨(p4 c hc).1, fun p hp => ?_, (p4 c hc).2.2⟩
    rw [pe.X (by omega)]
    exact (p4 c hc).2.1 p hp
  · rw [r 75 (by omega), pe.L (by omega), pe.U (by omega)]
    exact p5 t ht
  · rw [pe.U hf, pe.L hf] at hi
    rw [pe.U hf, pe.A hf, pe.X hf, pe.Y hf, r 72 (by omega), r 73 (by omega), r 74 (by omega)]
    exact p6 f hf i hi
theorem PE.eend {M N : cs_Mem} (h : PE M N) {S : Ms} {t : Nat} (ht : t < 3) : mEnd N S t = mEnd M S t := by
  unfold mEnd
  rw [h.L (by omega)]
def E84 (S : Ms) (M : cs_Mem) (t : Nat) : Prop := (∀ u, u < 3 → u ≠ t → M 84 u = if mEnd M S u = true then nI (mFl S u) else -1) ∧ M 84 t = -1
def EncT (S : Ms) (M : cs_Mem) (t : Nat) : Prop := EncB S M ∧ E84 S M t
def SO (S S' : Ms) (t : Nat) : Prop := ∀ u, u < 3 → u ≠ t → mSk S' u = mSk S u ∧ mFl S' u = mFl S u ∧ mPr S' (8 + u) = mPr S (8 + u)
theorem end_so {M : cs_Mem} {S S' : Ms} {t u : Nat} (h : SO S S' t) (hu : u < 3) (hut : u ≠ t) : mEnd M S' u = mEnd M S u := by
  obtain ⟨h1, h2, h3⟩ := h u hu hut
  unfold mEnd
  rw [h1, h2, h3]
theorem E84.keep {M N : cs_Mem} {S S' : Ms} {t : Nat} (h : E84 S M t) (hs : SO S S' t) (pe : PE M N) (e : N 84 = M 84) : E84 S' N t := by
  refine ⟨fun u hu hut => ?_, by rw [e]; exact h.2⟩
  rw [e, pe.eend hu, end_so hs hu hut, (hs u hu hut).2.1]
  exact h.1 u hu hut
theorem E84.refl {M N : cs_Mem} {S : Ms} {t : Nat} (h : E84 S M t) (pe : PE M N) (e : N 84 = M 84) : E84 S N t := h.keep (fun _ _ _ => ⟨rfl, rfl, rfl⟩) pe e
/-- a thread that has not ended, behind the last write -/
theorem EncT.close {M : cs_Mem} {S : Ms} {t : Nat} (h : EncT S M t) (he : mEnd M S t = false) : EncM S M := by
  refine ⟨h.1, fun u hu => ?_⟩
  by_cases q : u = t
  · subst q
    rw [he, h.2.2]
    rfl
  · exact h.2.1 u hu q
theorem EncM.op {M : cs_Mem} {S : Ms} {t : Nat} (h : EncM S M) (ht : t < 3) (he : mEnd M S t = false) : EncT S M t := by
  refine ⟨h.1, fun u hu _ => h.2 u hu, ?_⟩
  rw [h.2 t ht, he]
  rfl
theorem so_incP {M : cs_Mem} {S : Ms} {t : Nat} (hI : InvS M S) (ht : t < 3) : SO S (mIncP S (mTop S t)) t := by
  refine fun u hu hut => ⟨rfl, rfl, va_up_ne _ _ ?_⟩
  intro q
  rcases top_cases (S := S) (t := t) with ⟨a1, a2⟩ | ⟨d, l, a1, a2⟩
  · omega
  · have := sk_lt hI ht d (by rw [a1]; simp)
    omega
theorem so_setF {S : Ms} {t v : Nat} : SO S (mSetF S t v) t := fun u hu hut => ⟨rfl, va_up_ne _ _ hut, rfl⟩
theorem so_pop {S : Ms} {t v : Nat} : SO S (mPop S t v) t := by
  intro u hu hut
  unfold mPop
  split
  · exact ⟨rfl, rfl, rfl⟩
  · exact ⟨va_up_ne _ _ hut, rfl, rfl⟩
theorem so_push {S : Ms} {t x : Nat} (hx : x < 8) : SO S (mPush S t x) t := fun u hu hut => ⟨va_up_ne _ _ hut, rfl, va_up_ne _ _ (by omega)⟩
theorem m_note {M : cs_Mem} {S : Ms} {t : Nat} {x : Int32} (hE : EncT S M t) (hl : (mLg S).length < 600) : pre_Mo_note M 62 x ∧ KM M (f_Mo_note M 62 x) ∧ EncT (mLog S x) (f_Mo_note M 62 x) t := by
  have e26 : M 62 26 = nI (mLg S).length := hE.1.2.2.2.2.2.2.1
  have e : f_Mo_note M 62 x = cs_up (cs_up M 85 (upd (M 85) (mLg S).length x)) 62 (upd (M 62) 26 (nI (mLg S).length + 1)) := by
    unfold f_Mo_note
    simp only [cs_bd_eq]
    rw [cs_up_ne _ _ (show 62 ≠ 85 by omega), e26, nI_clamp (by omega)]
  have k : KM M (f_Mo_note M 62 x) := by
    rw [e]
    have k2 : KM (cs_up M 85 (upd (M 85) (mLg S).length x)) (cs_up (cs_up M 85 (upd (M 85) (mLg S).length x)) 62 (upd (M 62) 26 (nI (mLg S).length + 1))) := KM.up62 (M := cs_up M 85 (upd (M 85) (mLg S).length x))
    exact (KM.up (by omega) (by omega)).trans k2
  refine ⟨⟨?_, trivial⟩, k, ?_, ?_⟩
  · rw [e26]
    exact vp_in_nI (N := 600) hl (by omega)
  · rw [e]
    exact B_log hE.1
  · refine hE.2.keep (fun _ _ _ => ⟨rfl, rfl, rfl⟩) k.pe ?_
    rw [e]
    rfl
theorem m_fin {M : cs_Mem} {S : Ms} {t : Nat} (hW : WP M) (hP : PRel M) (hE : EncT S M t) (ht : t < 3) (hf : mFl S t = 0) (hb : mPr S (8 + t) < 1000) (hl : (mSk S t).length ≤ 8) : pre_Mo_finish M 62 (nI t) ∧ KM M (f_Mo_finish M 62 (nI t)) ∧ EncM S (f_Mo_finish M 62 (nI t)) := by
  have b4 := hE.1.2.2.2.1 t ht
  have h75 := (hP.2.2.2.2.1 t ht).1
  have hL := (wpL hW (f := 8 + t) (by omega)).2.2
  have h83 := hE.1.2.2.2.2.2.1 t ht
  rw [if_pos (Or.inr hf)] at h83
  have h84 := hE.2.2
  have ix : ((9 : Int32) * nI t).toNatClampNeg = 9 * t := by rw [show (9 : Int32) = nI 9 from rfl, nI_mul]; exact nI_clamp (by omega)
  have i81 : vp_in (9 * nI t) (cs_ln M 81) := by rw [show (9 : Int32) = nI 9 from rfl, nI_mul]; exact vp_in_nI (N := 27) (by omega) (by omega)
  have i3 : ∀ r, cs_ln M r = 3 → vp_in (nI t) (cs_ln M r) := fun r q => by rw [q]; exact vp_in_nI ht (by omega)
  have hm : ¬ (0 : Int32) ≤ -1 := by decide
  unfold pre_Mo_finish f_Mo_finish
  simp only [cs_bd_eq]
  rw [nI_clamp (by omega), ix, b4.1, b4.2.2, h75, h83, h84]
  by_cases hs : mSk S t = []
  · have e1 : nI ((mSk S t).length + 1) = 1 := by rw [hs]; rfl
    rw [e1, if_pos rfl]
    by_cases hp : mPr S (8 + t) < pgL M (8 + t)
    · have hp' : nI (mPr S (8 + t)) < nI (pgL M (8 + t)) := (nlt (by omega) (by omega)).mpr hp
      rw [if_pos hp']
      refine ⟨⟨i3 82 rfl, fun _ => ⟨i81, i3 75 rfl, fun _ => trivial, fun q => absurd hp' q⟩, fun q => absurd rfl q⟩, KM.refl M, hE.close ?_⟩
      unfold mEnd
      rw [hs]
      simp [hf]
      omega
    · have hp' : ¬ nI (mPr S (8 + t)) < nI (pgL M (8 + t)) := fun q => hp ((nlt (by omega) (by omega)).mp q)
      rw [if_neg hp', if_neg hm, if_neg hm]
      refine ⟨⟨i3 82 rfl, fun _ => ⟨i81, i3 75 rfl, fun _ => trivial, fun _ => ⟨i3 83 rfl, fun _ => trivial, fun _ => ⟨i3 84 rfl, fun _ => trivial, fun _ => ⟨i3 84 rfl, trivial⟩⟩⟩⟩, fun _ => trivial⟩, KM.up (by omega) (by omega), B_84 hE.1, fun u hu => ?_⟩
      have pe : PE M (cs_up M 84 (upd (M 84) t 0)) := (KM.up (by omega) (by omega)).pe
      rw [cs_up_self, pe.eend hu]
      by_cases q : u = t
      · subst q
        rw [up_s, if_pos ?_, hf]
        · rfl
        · unfold mEnd
          rw [hs]
          simp [hf]
          omega
      · rw [up_n q]
        exact hE.2.1 u hu q
  · have e1 : ¬ nI ((mSk S t).length + 1) = 1 := by
      intro q
      have := (neq (b := 1) (by omega) (by omega)).mp q
      exact hs (List.length_eq_zero_iff.mp (by omega))
    rw [if_neg e1]
    refine ⟨⟨i3 82 rfl, fun q => absurd q e1, fun _ => trivial⟩, KM.refl M, hE.close ?_⟩
    unfold mEnd
    cases h : mSk S t with
    | nil => exact absurd h hs
    | cons c l => rfl
/-- one part more, and the thread ends if it was its plan's last -/
theorem m_inc {M : cs_Mem} {S : Ms} {t : Nat} (hW : WP M) (hP : PRel M) (hI : InvS M S) (hE : EncT S M t) (ht : t < 3) (hf : mFl S t = 0) : pre_Mo_finish (cs_up M 81 (upd (M 81) (9 * t + (mSk S t).length) (nI (mPr S (mTop S t)) + 1))) 62 (nI t) ∧ KM M (f_Mo_finish (cs_up M 81 (upd (M 81) (9 * t + (mSk S t).length) (nI (mPr S (mTop S t)) + 1))) 62 (nI t)) ∧ EncM (mIncP S (mTop S t)) (f_Mo_finish (cs_up M 81 (upd (M 81) (9 * t + (mSk S t).length) (nI (mPr S (mTop S t)) + 1))) 62 (nI t)) := by
  have k : KM M (cs_up M 81 (upd (M 81) (9 * t + (mSk S t).length) (nI (mPr S (mTop S t)) + 1))) := KM.up (by omega) (by omega)
  have hB := B_incP hI hE.1 ht
  have h84 := hE.2.keep (so_incP hI ht) k.pe rfl
  have hb : mPr (mIncP S (mTop S t)) (8 + t) < 1000 := by
    have h1 := pr_le hW hI (f := 8 + t) (by omega)
    show va_up (mPr S) (mTop S t) (mPr S (mTop S t) + 1) (8 + t) < 1000
    by_cases q : 8 + t = mTop S t
    · rw [← q, va_up_self]
      omega
    · rw [va_up_ne _ _ q]
      omega
  have r := m_fin (k.pe.wp hW) (k.prel hW hP) ⟨hB, h84⟩ ht hf hb (show (mSk S t).length ≤ 8 from sk_len hI ht)
  exact ⟨r.1, k.trans r.2.1, r.2.2⟩
