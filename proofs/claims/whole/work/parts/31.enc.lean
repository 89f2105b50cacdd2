/-! the class's row of cells under single writes -/
theorem ixK (a t : Nat) (h : a + t < 1000) : (nI a + nI t).toNatClampNeg = a + t := by
  rw [nI_add]
  exact nI_clamp (by omega)
theorem ix0 {t : Nat} (h : t < 900) : ((0 : Int32) + nI t).toNatClampNeg = t := by
  have := ixK 0 t (by omega)
  rw [Nat.zero_add] at this
  exact this
theorem ix8 {t : Nat} (h : t < 900) : ((8 : Int32) + nI t).toNatClampNeg = 8 + t := ixK 8 t (by omega)
theorem ix16 {t : Nat} (h : t < 900) : ((16 : Int32) + nI t).toNatClampNeg = 16 + t := ixK 16 t (by omega)
theorem ix24 {t : Nat} (h : t < 900) : ((24 : Int32) + nI t).toNatClampNeg = 24 + t := ixK 24 t (by omega)
theorem ix35 {t : Nat} (h : t < 900) : ((35 : Int32) + nI t).toNatClampNeg = 35 + t := ixK 35 t (by omega)
theorem ix38 {t : Nat} (h : t < 900) : ((38 : Int32) + nI t).toNatClampNeg = 38 + t := ixK 38 t (by omega)
theorem inK (a t n : Nat) (h : a + t < n) (hn : n < 100000) : vp_in (nI a + nI t) n := by
  rw [nI_add]
  exact vp_in_nI h (by omega)
theorem up_s {f : Nat → Int32} {k : Nat} {x : Int32} : upd f k x k = x := pk_us
theorem up_n {f : Nat → Int32} {k j : Nat} {x : Int32} (h : j ≠ k) : upd f k x j = f j := pk_un h
theorem EncC.incP {S : Ms} {k f : Nat} {r : Nat → Int32} (h : EncC S k r) (hf : f < 11) : EncC (mIncP S f) k (upd r (24 + f) (nI (mPr S f) + 1)) := by
  obtain ⟨h1, h2, h3, h4, h5, h6, h7, h8⟩ := h
  refine ⟨fun c hc => ?_, fun c hc => ?_, fun g hg => ?_, fun t ht => ?_, fun t ht => ?_, fun t ht c l1 l2 hc e => ?_, ?_, ?_⟩
  · rw [up_n (by omega)]; exact h1 c hc
  · rw [up_n (by omega)]; exact h2 c hc
  · by_cases e : g = f
    · subst e
      rw [up_s, nI_1]
      simp [mIncP, mPr, va_up]
    · rw [up_n (by omega), h3 g hg]
      simp [mIncP, mPr, va_up, e]
  · rw [up_n (by omega)]; exact h4 t ht
  · rw [up_n (by omega)]; exact h5 t ht
  · rw [up_n (by omega)]; exact h6 t ht c l1 l2 hc e
  · rw [up_n (by omega)]; exact h7
  · rw [up_n (by omega)]; exact h8
theorem EncC.setF {S : Ms} {k t v : Nat} {r : Nat → Int32} (h : EncC S k r) (ht : t < 3) : EncC (mSetF S t v) k (upd r (38 + t) (nI v)) := by
  obtain ⟨h1, h2, h3, h4, h5, h6, h7, h8⟩ := h
  refine ⟨fun c hc => ?_, fun c hc => ?_, fun g hg => ?_, fun u hu => ?_, fun u hu => ?_, fun u hu c l1 l2 hc e => ?_, ?_, ?_⟩
  · rw [up_n (by omega)]; exact h1 c hc
  · rw [up_n (by omega)]; exact h2 c hc
  · rw [up_n (by omega)]; exact h3 g hg
  · rw [up_n (by omega)]; exact h4 u hu
  · by_cases e : u = t
    · subst e
      rw [up_s]
      simp [mSetF, mFl, va_up]
    · rw [up_n (by omega), h5 u hu]
      simp [mSetF, mFl, va_up, e]
  · rw [up_n (by omega)]; exact h6 u hu c l1 l2 hc e
  · rw [up_n (by omega)]; exact h7
  · rw [up_n (by omega)]; exact h8
theorem EncC.set0 {S : Ms} {k d : Nat} {v : Int32} {r : Nat → Int32} (h : EncC S k r) (hd : d < 8) : EncC (mSet0 S d v) k (upd r (8 + d) v) := by
  obtain ⟨h1, h2, h3, h4, h5, h6, h7, h8⟩ := h
  refine ⟨fun c hc => ?_, fun c hc => ?_, fun g hg => ?_, fun u hu => ?_, fun u hu => ?_, fun u hu c l1 l2 hc e => ?_, ?_, ?_⟩
  · rw [up_n (by omega)]; exact h1 c hc
  · by_cases e : c = d
    · subst e
      rw [up_s]
      simp [mSet0, mS0, va_up]
    · rw [up_n (by omega), h2 c hc]
      simp [mSet0, mS0, va_up, e]
  · rw [up_n (by omega)]; exact h3 g hg
  · rw [up_n (by omega)]; exact h4 u hu
  · rw [up_n (by omega)]; exact h5 u hu
  · rw [up_n (by omega)]; exact h6 u hu c l1 l2 hc e
  · rw [up_n (by omega)]; exact h7
  · rw [up_n (by omega)]; exact h8
theorem EncC.log {S : Ms} {k : Nat} {x : Int32} {r : Nat → Int32} (h : EncC S k r) : EncC (mLog S x) k (upd r 42 (nI (mLg S).length + 1)) := by
  obtain ⟨h1, h2, h3, h4, h5, h6, h7, h8⟩ := h
  refine ⟨fun c hc => ?_, fun c hc => ?_, fun g hg => ?_, fun u hu => ?_, fun u hu => ?_, fun u hu c l1 l2 hc e => ?_, ?_, ?_⟩
  · rw [up_n (by omega)]; exact h1 c hc
  · rw [up_n (by omega)]; exact h2 c hc
  · rw [up_n (by omega)]; exact h3 g hg
  · rw [up_n (by omega)]; exact h4 u hu
  · rw [up_n (by omega)]; exact h5 u hu
  · rw [up_n (by omega)]; exact h6 u hu c l1 l2 hc e
  · rw [up_n (by omega)]; exact h7
  · rw [up_s, nI_1]
    simp [mLog, mLg]
theorem EncC.tick {S : Ms} {k : Nat} {r : Nat → Int32} (h : EncC S k r) : EncC S (k + 1) (upd r 41 (nI k + 1)) := by
  obtain ⟨h1, h2, h3, h4, h5, h6, h7, h8⟩ := h
  refine ⟨fun c hc => ?_, fun c hc => ?_, fun g hg => ?_, fun u hu => ?_, fun u hu => ?_, fun u hu c l1 l2 hc e => ?_, ?_, ?_⟩
  · rw [up_n (by omega)]; exact h1 c hc
  · rw [up_n (by omega)]; exact h2 c hc
  · rw [up_n (by omega)]; exact h3 g hg
  · rw [up_n (by omega)]; exact h4 u hu
  · rw [up_n (by omega)]; exact h5 u hu
  · rw [up_n (by omega)]; exact h6 u hu c l1 l2 hc e
  · rw [up_s, nI_1]
  · rw [up_n (by omega)]; exact h8
theorem EncC.pop {S : Ms} {k t v d : Nat} {l : List Nat} {r : Nat → Int32} (h : EncC S k r) (ht : t < 3) (hd : d < 8) (hs : mSk S t = d :: l) : EncC (mPop S t v) k (upd (upd r d (nI v)) (35 + t) (r (16 + d))) := by
  obtain ⟨h1, h2, h3, h4, h5, h6, h7, h8⟩ := h
  have hb := h6 t ht d [] l hd hs
  have e0 : mPop S t v = (va_up (mSt S) d v, mS0 S, va_up (mSk S) t l, mPr S, mFl S, mLg S) := by unfold mPop; rw [hs]
  rw [e0]
  refine ⟨fun c hc => ?_, fun c hc => ?_, fun g hg => ?_, fun u hu => ?_, fun u hu => ?_, fun u hu c l1 l2 hc e => ?_, ?_, ?_⟩
  · rw [up_n (by omega)]
    by_cases e : c = d
    · subst e
      rw [up_s]
      simp [mSt, va_up]
    · rw [up_n (by omega), h1 c hc]
      simp [mSt, va_up, e]
  · rw [up_n (by omega), up_n (by omega)]; exact h2 c hc
  · rw [up_n (by omega), up_n (by omega)]; exact h3 g hg
  · by_cases e : u = t
    · subst e
      rw [up_s, hb]
      simp [mTop, mSk, va_up]
    · rw [up_n (by omega), up_n (by omega), h4 u hu]
      simp [mTop, mSk, va_up, e]
  · rw [up_n (by omega), up_n (by omega)]; exact h5 u hu
  · rw [up_n (by omega), up_n (by omega)]
    by_cases eu : u = t
    · subst eu
      have e2 : l = l1 ++ c :: l2 := by simpa [mSk, va_up] using e
      exact h6 u hu c (d :: l1) l2 hc (by rw [hs, e2]; rfl)
    · have e2 : mSk S u = l1 ++ c :: l2 := by simpa [mSk, va_up, eu] using e
      exact h6 u hu c l1 l2 hc e2
  · rw [up_n (by omega), up_n (by omega)]; exact h7
  · rw [up_n (by omega), up_n (by omega)]; exact h8
theorem EncC.push {S : Ms} {k t d : Nat} {r : Nat → Int32} (h : EncC S k r) (ht : t < 3) (hd : d < 8) (hs : ∀ u, u < 3 → d ∉ mSk S u) : EncC (mPush S t d) k (upd (upd (upd (upd r d (nI (4 + t))) (16 + d) (nI (mTop S t))) (24 + d) 0) (35 + t) (nI d)) := by
  obtain ⟨h1, h2, h3, h4, h5, h6, h7, h8⟩ := h
  refine ⟨fun c hc => ?_, fun c hc => ?_, fun g hg => ?_, fun u hu => ?_, fun u hu => ?_, fun u hu c l1 l2 hc e => ?_, ?_, ?_⟩
  · rw [up_n (by omega), up_n (by omega), up_n (by omega)]
    by_cases e : c = d
    · subst e
      rw [up_s]
      simp [mPush, mSt, va_up]
    · rw [up_n (by omega), h1 c hc]
      simp [mPush, mSt, va_up, e]
  · rw [up_n (by omega), up_n (by omega), up_n (by omega), up_n (by omega)]; exact h2 c hc
  · rw [up_n (by omega)]
    by_cases e : g = d
    · subst e
      rw [up_s]
      simp [mPush, mPr, va_up]
      rfl
    · rw [up_n (by omega), up_n (by omega), up_n (by omega), h3 g hg]
      simp [mPush, mPr, va_up, e]
  · by_cases e : u = t
    · subst e
      rw [up_s]
      simp [mPush, mTop, mSk, va_up, mTopL]
    · rw [up_n (by omega), up_n (by omega), up_n (by omega), up_n (by omega), h4 u hu]
      simp [mPush, mTop, mSk, va_up, e]
  · rw [up_n (by omega), up_n (by omega), up_n (by omega), up_n (by omega)]; exact h5 u hu
  · rw [up_n (by omega), up_n (by omega)]
    by_cases eu : u = t
    · subst eu
      have e2 : d :: mSk S u = l1 ++ c :: l2 := by simpa [mPush, mSk, va_up] using e
      cases l1 with
      | nil =>
        simp at e2
        obtain ⟨rfl, e3⟩ := e2
        rw [up_s]
        unfold mTop
        rw [e3]
      | cons a l1 =>
        simp at e2
        obtain ⟨rfl, e3⟩ := e2
        have hne : c ≠ d := fun q => hs u hu (by rw [e3, q]; simp)
        rw [up_n (by omega), up_n (by omega)]
        exact h6 u hu c l1 l2 hc e3
    · have e2 : mSk S u = l1 ++ c :: l2 := by simpa [mPush, mSk, va_up, eu] using e
      have hne : c ≠ d := fun q => hs u hu (by rw [e2, q]; simp)
      rw [up_n (by omega), up_n (by omega)]
      exact h6 u hu c l1 l2 hc e2
  · rw [up_n (by omega), up_n (by omega), up_n (by omega), up_n (by omega)]; exact h7
  · rw [up_n (by omega), up_n (by omega), up_n (by omega), up_n (by omega)]; exact h8
