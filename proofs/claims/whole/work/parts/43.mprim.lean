/-! the reference's machine under single writes -/
theorem pos_eq {M : cs_Mem} {S : Ms} {t u c : Nat} {l1 l2 : List Nat} (hI : InvS M S) (ht : t < 3) (hu : u < 3) (e : mSk S u = l1 ++ c :: l2) : (9 * u + (l2.length + 1) = 9 * t + (mSk S t).length) ↔ c = mTop S t := by
  have h1 := sk_len hI ht
  have h2 := sk_len hI hu
  have h3 : (mSk S u).length = l1.length + (l2.length + 1) := by rw [e]; simp
  have hcu : c ∈ mSk S u := by rw [e]; simp
  constructor
  · intro q
    have : u = t := by omega
    subst this
    have h4 : l1.length = 0 := by omega
    have : l1 = [] := List.length_eq_zero_iff.mp h4
    subst this
    unfold mTop
    rw [e]
    rfl
  · intro q
    rcases top_cases (S := S) (t := t) with ⟨a1, a2⟩ | ⟨d, l, a1, a2⟩
    · have := sk_lt hI hu c hcu
      omega
    · have hd : c = d := by omega
      subst hd
      have : u = t := sk_one hI hu ht hcu (by rw [a1]; simp)
      subst this
      have hn := (hI.2.1 u hu).1
      rw [a1] at e
      cases l1 with
      | nil =>
        simp at e
        rw [a1, e]
        simp
      | cons a l1 =>
        simp at e
        rw [a1] at hn
        have := (List.nodup_cons.mp hn).1
        rw [e.2] at this
        simp at this
theorem bot_eq {M : cs_Mem} {S : Ms} {t u : Nat} (hI : InvS M S) (ht : t < 3) (hu : u < 3) : (9 * u = 9 * t + (mSk S t).length) ↔ 8 + u = mTop S t := by
  have h1 := sk_len hI ht
  rcases top_cases (S := S) (t := t) with ⟨a1, a2⟩ | ⟨d, l, a1, a2⟩
  · rw [a1, a2]
    simp
    omega
  · have := sk_lt hI ht d (by rw [a1]; simp)
    rw [a1] at h1 ⊢
    rw [a2]
    simp at h1 ⊢
    omega
theorem B_incP {M : cs_Mem} {S : Ms} {t : Nat} (hI : InvS M S) (hE : EncB S M) (ht : t < 3) : EncB (mIncP S (mTop S t)) (cs_up M 81 (upd (M 81) (9 * t + (mSk S t).length) (nI (mPr S (mTop S t)) + 1))) := by
  obtain ⟨b1, b2, b3, b4, b5, b6, b7, b8⟩ := hE
  have ps : mPr (mIncP S (mTop S t)) (mTop S t) = mPr S (mTop S t) + 1 := va_up_self _ _ _
  have pn : ∀ g, g ≠ mTop S t → mPr (mIncP S (mTop S t)) g = mPr S g := fun g hg => va_up_ne _ _ hg
  refine ⟨b1, b2, b3, fun u hu => ⟨(b4 u hu).1, (b4 u hu).2.1, ?_⟩, fun u hu c l1 l2 e => ⟨(b5 u hu c l1 l2 e).1, ?_⟩, b6, b7, b8⟩
  · show upd (M 81) _ _ _ = _
    by_cases q : 8 + u = mTop S t
    · rw [(bot_eq hI ht hu).mpr q, up_s, q, ps, nI_1]
    · rw [up_n (fun w => q ((bot_eq hI ht hu).mp w)), pn _ q]
      exact (b4 u hu).2.2
  · show upd (M 81) _ _ _ = _
    by_cases q : c = mTop S t
    · rw [(pos_eq hI ht hu e).mpr q, up_s, q, ps, nI_1]
    · rw [up_n (fun w => q ((pos_eq hI ht hu e).mp w)), pn _ q]
      exact (b5 u hu c l1 l2 e).2
theorem B_set0 {M : cs_Mem} {S : Ms} {c : Nat} {v : Int32} (hE : EncB S M) (hc : c < 8) : EncB (mSet0 S c v) (cs_up M 79 (upd (M 79) (2 * c) v)) := by
  obtain ⟨b1, b2, b3, b4, b5, b6, b7, b8⟩ := hE
  refine ⟨b1, fun d hd => ?_, fun d hd => ?_, b4, b5, b6, b7, b8⟩
  · show upd (M 79) _ _ _ = va_up (mS0 S) c v d
    by_cases q : d = c
    · rw [q, up_s, va_up_self]
    · rw [up_n (by omega), va_up_ne _ _ q]
      exact b2 d hd
  · show upd (M 79) _ _ _ = M 64 d
    rw [up_n (by omega)]
    exact b3 d hd
theorem B_setF {M : cs_Mem} {S : Ms} {t v : Nat} (hE : EncB S M) (hs : ¬ mSk S t = []) (h1 : 1 ≤ v) : EncB (mSetF S t v) (cs_up M 83 (upd (M 83) t (nI (v - 1)))) := by
  obtain ⟨b1, b2, b3, b4, b5, b6, b7, b8⟩ := hE
  refine ⟨b1, b2, b3, b4, b5, fun u hu => ?_, b7, b8⟩
  show upd (M 83) _ _ _ = if mSk S u = [] ∨ va_up (mFl S) t v u = 0 then -1 else nI (va_up (mFl S) t v u - 1)
  by_cases q : u = t
  · subst q
    rw [up_s, va_up_self, if_neg (fun w => by rcases w with w | w; exact hs w; omega)]
  · rw [up_n q, va_up_ne _ _ q]
    exact b6 u hu
theorem B_setFp {M : cs_Mem} {S : Ms} {t v : Nat} {r : Nat → Int32} (hE : EncB S M) (hs : mSk S t = []) : EncB (mSetF S t v) (cs_up M 84 r) := by
  obtain ⟨b1, b2, b3, b4, b5, b6, b7, b8⟩ := hE
  refine ⟨b1, b2, b3, b4, b5, fun u hu => ?_, b7, b8⟩
  show M 83 u = if mSk S u = [] ∨ va_up (mFl S) t v u = 0 then -1 else nI (va_up (mFl S) t v u - 1)
  by_cases q : u = t
  · subst q
    rw [b6 u hu, if_pos (Or.inl hs), if_pos (Or.inl hs)]
  · rw [va_up_ne _ _ q]
    exact b6 u hu
theorem B_84 {M : cs_Mem} {S : Ms} {r : Nat → Int32} (hE : EncB S M) : EncB S (cs_up M 84 r) := hE
theorem B_setF0 {M : cs_Mem} {S : Ms} {t : Nat} (hE : EncB S M) : EncB (mSetF S t 0) (cs_up M 83 (upd (M 83) t (-1))) := by
  obtain ⟨b1, b2, b3, b4, b5, b6, b7, b8⟩ := hE
  refine ⟨b1, b2, b3, b4, b5, fun u hu => ?_, b7, b8⟩
  show upd (M 83) _ _ _ = if mSk S u = [] ∨ va_up (mFl S) t 0 u = 0 then -1 else nI (va_up (mFl S) t 0 u - 1)
  by_cases q : u = t
  · subst q
    rw [up_s, va_up_self, if_pos (Or.inr rfl)]
  · rw [up_n q, va_up_ne _ _ q]
    exact b6 u hu
theorem B_log {M : cs_Mem} {S : Ms} {x : Int32} (hE : EncB S M) : EncB (mLog S x) (cs_up (cs_up M 85 (upd (M 85) (mLg S).length x)) 62 (upd (M 62) 26 (nI (mLg S).length + 1))) := by
  obtain ⟨b1, b2, b3, b4, b5, b6, b7, b8⟩ := hE
  refine ⟨b1, b2, b3, b4, b5, b6, ?_, ?_⟩
  · show upd (M 62) 26 _ 26 = nI (mLg S ++ [x]).length
    rw [up_s, List.length_append, nI_1]
    rfl
  · show EncL (mLog S x) (upd (M 85) (mLg S).length x)
    intro i hi
    have hi : i < (mLg S ++ [x]).length := hi
    show _ = (mLg S ++ [x]).getD i 0
    rw [List.length_append] at hi
    simp at hi
    by_cases q : i = (mLg S).length
    · rw [q, up_s]
      simp
    · rw [up_n q, b8 i (by omega)]
      have : i < (mLg S).length := by omega
      simp [List.getElem?_append_left this]
theorem B_pop {M : cs_Mem} {S : Ms} {t v d : Nat} {l : List Nat} (hI : InvS M S) (hE : EncB S M) (ht : t < 3) (hs : mSk S t = d :: l) (hf : mFl S t = 0) : EncB (mPop S t v) (cs_up (cs_up M 78 (upd (M 78) d (nI v))) 82 (upd (M 82) t (M 82 t - 1))) := by
  obtain ⟨b1, b2, b3, b4, b5, b6, b7, b8⟩ := hE
  have e0 : mPop S t v = (va_up (mSt S) d v, mS0 S, va_up (mSk S) t l, mPr S, mFl S, mLg S) := by unfold mPop; rw [hs]
  rw [e0]
  refine ⟨fun c hc => ?_, b2, b3, fun u hu => ⟨?_, (b4 u hu).2.1, (b4 u hu).2.2⟩, fun u hu c l1 l2 e => ?_, fun u hu => ?_, b7, b8⟩
  · show upd (M 78) _ _ _ = nI (va_up (mSt S) d v c)
    by_cases q : c = d
    · rw [q, up_s, va_up_self]
    · rw [up_n q, va_up_ne _ _ q]
      exact b1 c hc
  · show upd (M 82) _ _ _ = nI ((va_up (mSk S) t l u).length + 1)
    by_cases q : u = t
    · rw [q, up_s, va_up_self, (b4 t ht).1, hs, nI_pred]
      rfl
    · rw [up_n q, va_up_ne _ _ q]
      exact (b4 u hu).1
  · have e : va_up (mSk S) t l u = l1 ++ c :: l2 := e
    show M 80 _ = _ ∧ M 81 _ = _
    by_cases q : u = t
    · subst q
      rw [va_up_self] at e
      exact b5 u hu c (d :: l1) l2 (by rw [hs, e]; rfl)
    · rw [va_up_ne _ _ q] at e
      exact b5 u hu c l1 l2 e
  · show M 83 u = if va_up (mSk S) t l u = [] ∨ mFl S u = 0 then -1 else nI (mFl S u - 1)
    by_cases q : u = t
    · subst q
      rw [b6 u hu, if_pos (Or.inr hf), if_pos (Or.inr hf)]
    · rw [va_up_ne _ _ q]
      exact b6 u hu
theorem B_push {M : cs_Mem} {S : Ms} {t x : Nat} (hI : InvS M S) (hE : EncB S M) (ht : t < 3) (hx : x < 8) (h0 : mSt S x = 0) (hf : mFl S t = 0) : EncB (mPush S t x) (cs_up (cs_up (cs_up (cs_up M 78 (upd (M 78) x (nI (4 + t)))) 82 (upd (M 82) t (M 82 t + 1))) 80 (upd (M 80) (9 * t + ((mSk S t).length + 1)) (nI x))) 81 (upd (M 81) (9 * t + ((mSk S t).length + 1)) 0)) := by
  obtain ⟨b1, b2, b3, b4, b5, b6, b7, b8⟩ := hE
  have hni : ∀ u, u < 3 → x ∉ mSk S u := fun u hu q => by have := (hI.2.2.1 u x hu hx).mpr q; omega
  have hlt : (mSk S t).length + 1 ≤ 8 := by
    have := nd_len 8 (x :: mSk S t) (List.nodup_cons.mpr ⟨hni t ht, (hI.2.1 t ht).1⟩) (fun y hy => by
      rcases List.mem_cons.mp hy with rfl | hy
      · exact hx
      · exact sk_lt hI ht y hy)
    exact this
  refine ⟨fun c hc => ?_, b2, b3, fun u hu => ⟨?_, ?_, ?_⟩, fun u hu c l1 l2 e => ?_, fun u hu => ?_, b7, b8⟩
  · show upd (M 78) _ _ _ = nI (va_up (mSt S) x (4 + t) c)
    by_cases q : c = x
    · rw [q, up_s, va_up_self]
    · rw [up_n q, va_up_ne _ _ q]
      exact b1 c hc
  · show upd (M 82) _ _ _ = nI ((va_up (mSk S) t (x :: mSk S t) u).length + 1)
    by_cases q : u = t
    · rw [q, up_s, va_up_self, (b4 t ht).1, nI_1]
      rfl
    · rw [up_n q, va_up_ne _ _ q]
      exact (b4 u hu).1
  · show upd (M 80) _ _ _ = _
    rw [up_n (by omega)]
    exact (b4 u hu).2.1
  · show upd (M 81) _ _ _ = nI (va_up (mPr S) x 0 (8 + u))
    rw [up_n (by omega), va_up_ne _ _ (by omega)]
    exact (b4 u hu).2.2
  · have e : va_up (mSk S) t (x :: mSk S t) u = l1 ++ c :: l2 := e
    show upd (M 80) _ _ _ = _ ∧ upd (M 81) _ _ _ = nI (va_up (mPr S) x 0 c)
    by_cases q : u = t
    · subst q
      rw [va_up_self] at e
      cases l1 with
      | nil =>
        simp at e
        obtain ⟨rfl, rfl⟩ := e
        rw [up_s, up_s, va_up_self]
        exact ⟨rfl, rfl⟩
      | cons a l1 =>
        simp at e
        have hl : (mSk S u).length = l1.length + (l2.length + 1) := by rw [e.2]; simp
        have hcx : c ≠ x := fun w => hni u hu (by rw [e.2, w]; simp)
        rw [up_n (by omega), up_n (by omega), va_up_ne _ _ hcx]
        exact b5 u hu c l1 l2 e.2
    · rw [va_up_ne _ _ q] at e
      have hl : (mSk S u).length = l1.length + (l2.length + 1) := by rw [e]; simp
      have := sk_len hI hu
      have hcx : c ≠ x := fun w => hni u hu (by rw [e, w]; simp)
      rw [up_n (by omega), up_n (by omega), va_up_ne _ _ hcx]
      exact b5 u hu c l1 l2 e
  · show M 83 u = if va_up (mSk S) t (x :: mSk S t) u = [] ∨ mFl S u = 0 then -1 else nI (mFl S u - 1)
    by_cases q : u = t
    · subst q
      rw [b6 u hu, if_pos (Or.inr hf), if_pos (Or.inr hf)]
    · rw [va_up_ne _ _ q]
      exact b6 u hu
