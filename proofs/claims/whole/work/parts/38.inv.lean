/-! the invariant is kept by every step of a thread that can make one -/
theorem top_cases {S : Ms} {t : Nat} : (mSk S t = [] ∧ mTop S t = 8 + t) ∨ ∃ c l, mSk S t = c :: l ∧ mTop S t = c := by
  cases h : mSk S t with
  | nil => exact Or.inl ⟨rfl, by unfold mTop; rw [h]; rfl⟩
  | cons c l => exact Or.inr ⟨c, l, rfl, by unfold mTop; rw [h]; rfl⟩
theorem topL_cases (l : List Nat) (t : Nat) : (l = [] ∧ mTopL l t = 8 + t) ∨ ∃ c r, l = c :: r ∧ mTopL l t = c := by
  cases l with
  | nil => exact Or.inl ⟨rfl, rfl⟩
  | cons c l => exact Or.inr ⟨c, l, rfl, rfl⟩
theorem sk_one {M : cs_Mem} {S : Ms} (hI : InvS M S) {t u c : Nat} (ht : t < 3) (hu : u < 3) (h1 : c ∈ mSk S t) (h2 : c ∈ mSk S u) : t = u := by
  have hc := sk_lt hI ht c h1
  have e1 := (hI.2.2.1 t c ht hc).mpr h1
  have e2 := (hI.2.2.1 u c hu hc).mpr h2
  omega
theorem tops_ne {M : cs_Mem} {S : Ms} (hI : InvS M S) {t u : Nat} (ht : t < 3) (hu : u < 3) (h : mTop S t = mTop S u) : t = u := by
  rcases top_cases (S := S) (t := t) with ⟨a1, a2⟩ | ⟨c, l, a1, a2⟩ <;> rcases top_cases (S := S) (t := u) with ⟨b1, b2⟩ | ⟨d, r, b1, b2⟩
  · omega
  · have := sk_lt hI hu d (by rw [b1]; simp); omega
  · have := sk_lt hI ht c (by rw [a1]; simp); omega
  · have e : c = d := by omega
    exact sk_one hI ht hu (c := c) (by rw [a1]; simp) (by rw [b1, e]; simp)
theorem below_ne {M : cs_Mem} {S : Ms} (hI : InvS M S) {t u c : Nat} {l1 l2 : List Nat} (ht : t < 3) (hu : u < 3) (e : mSk S u = l1 ++ c :: l2) : mTopL l2 u ≠ mTop S t := by
  intro h
  have hnd := (hI.2.1 u hu).1
  rcases topL_cases l2 u with ⟨a1, a2⟩ | ⟨d, r, a1, a2⟩ <;> rcases top_cases (S := S) (t := t) with ⟨b1, b2⟩ | ⟨f, q, b1, b2⟩
  · have : t = u := by omega
    subst this
    rw [b1] at e
    simp at e
  · have := sk_lt hI ht f (by rw [b1]; simp); omega
  · have := sk_lt hI hu d (by rw [e, a1]; simp); omega
  · have e2 : d = f := by omega
    have hd : d ∈ mSk S u := by rw [e, a1]; simp
    have : u = t := sk_one hI hu ht hd (by rw [b1, e2]; simp)
    subst this
    rw [e, a1, e2] at hnd
    rw [b1, a1, e2] at e
    cases l1 with
    | nil =>
      simp at e
      simp [e.1] at hnd
    | cons a l1 =>
      simp at e
      rw [← e.1] at hnd
      simp at hnd
theorem inv_log {M : cs_Mem} {S : Ms} {x : Int32} (hI : InvS M S) : InvS M (mLog S x) := hI
theorem inv_set0 {M : cs_Mem} {S : Ms} {c : Nat} {x : Int32} (hI : InvS M S) : InvS M (mSet0 S c x) := hI
theorem inv_incP {M : cs_Mem} {S : Ms} {t : Nat} (hI : InvS M S) (ht : t < 3) (hp : mPr S (mTop S t) < pgL M (mTop S t)) (hf : mFl S t = 0) : InvS M (mIncP S (mTop S t)) := by
  obtain ⟨i1, i2, i3, i4, i5, i6, i7⟩ := id hI
  have ne : ∀ g, g ≠ mTop S t → mPr (mIncP S (mTop S t)) g = mPr S g := fun g hg => by simp [mIncP, mPr, va_up, hg]
  refine ⟨i1, i2, i3, fun f hf => ?_, fun u hu c l1 l2 e => ?_, fun u hu => ⟨(i6 u hu).1, fun hz => ?_⟩, fun c hc h0 => ?_⟩
  · by_cases e : f = mTop S t
    · rw [e]
      show va_up (mPr S) (mTop S t) (mPr S (mTop S t) + 1) (mTop S t) ≤ _
      rw [va_up_self]
      omega
    · rw [ne f e]; exact i4 f hf
  · rw [ne _ (below_ne hI ht hu e)]
    exact i5 u hu c l1 l2 e
  · have hut : u ≠ t := fun q => hz (by rw [q]; exact hf)
    show mPr (mIncP S (mTop S t)) (mTop S u) < _
    rw [ne _ (fun q => hut (tops_ne hI hu ht q))]
    exact (i6 u hu).2 hz
  · have hne : c ≠ mTop S t := by
      intro q
      rcases top_cases (S := S) (t := t) with ⟨a1, a2⟩ | ⟨d, l, a1, a2⟩
      · omega
      · have := (i3 t d ht (by omega)).mpr (by rw [a1]; simp)
        have h0 : mSt S c = 0 := h0
        rw [q, a2] at h0
        omega
    rw [ne c hne]
    exact i7 c hc h0
theorem inv_setF {M : cs_Mem} {S : Ms} {t v : Nat} (hI : InvS M S) (ht : t < 3) (hv : v ≤ 40) (hp : mPr S (mTop S t) < pgL M (mTop S t)) : InvS M (mSetF S t v) := by
  obtain ⟨i1, i2, i3, i4, i5, i6, i7⟩ := id hI
  refine ⟨i1, i2, i3, i4, i5, fun u hu => ?_, i7⟩
  by_cases e : u = t
  · subst e
    refine ⟨?_, fun _ => hp⟩
    show va_up (mFl S) u v u ≤ 40
    rw [va_up_self]
    exact hv
  · have h1 : mFl (mSetF S t v) u = mFl S u := va_up_ne _ _ e
    rw [h1]
    exact i6 u hu
theorem inv_setF0 {M : cs_Mem} {S : Ms} {t : Nat} (hI : InvS M S) : InvS M (mSetF S t 0) := by
  obtain ⟨i1, i2, i3, i4, i5, i6, i7⟩ := id hI
  refine ⟨i1, i2, i3, i4, i5, fun u hu => ?_, i7⟩
  by_cases e : u = t
  · subst e
    have h1 : mFl (mSetF S u 0) u = 0 := va_up_self _ _ _
    rw [h1]
    exact ⟨by omega, fun q => absurd rfl q⟩
  · have h1 : mFl (mSetF S t 0) u = mFl S u := va_up_ne _ _ e
    rw [h1]
    exact i6 u hu
theorem inv_pop {M : cs_Mem} {S : Ms} {t v d : Nat} {l : List Nat} (hI : InvS M S) (ht : t < 3) (hv : v = 1 ∨ v = 2) (hs : mSk S t = d :: l) (hf : mFl S t = 0) : InvS M (mPop S t v) ∧ mPr (mPop S t v) (mTop (mPop S t v) t) < pgL M (mTop (mPop S t v) t) ∧ mFl (mPop S t v) t = 0 := by
  obtain ⟨i1, i2, i3, i4, i5, i6, i7⟩ := id hI
  have e0 : mPop S t v = (va_up (mSt S) d v, mS0 S, va_up (mSk S) t l, mPr S, mFl S, mLg S) := by unfold mPop; rw [hs]
  have hd : d < 8 := sk_lt hI ht d (by rw [hs]; simp)
  have hnd := (i2 t ht).1
  rw [hs] at hnd
  have hdl : d ∉ l := (List.nodup_cons.mp hnd).1
  have k1 : ∀ u, u ≠ t → mSk (mPop S t v) u = mSk S u := fun u hu => by rw [e0]; exact va_up_ne _ _ hu
  have k2 : mSk (mPop S t v) t = l := by rw [e0]; exact va_up_self _ _ _
  have s1 : ∀ c, c ≠ d → mSt (mPop S t v) c = mSt S c := fun c hc => by rw [e0]; exact va_up_ne _ _ hc
  have s2 : mSt (mPop S t v) d = v := by rw [e0]; exact va_up_self _ _ _
  have pr : mPr (mPop S t v) = mPr S := by rw [e0]; rfl
  have fl : mFl (mPop S t v) = mFl S := by rw [e0]; rfl
  have tp : ∀ u, u ≠ t → mTop (mPop S t v) u = mTop S u := fun u hu => by unfold mTop; rw [k1 u hu]
  have tpt : mTop (mPop S t v) t = mTopL l t := by unfold mTop; rw [k2]
  refine ⟨⟨fun c hc => ?_, fun u hu => ?_, fun u c hu hc => ?_, ?_, fun u hu c l1 l2 e => ?_, fun u hu => ?_, fun c hc h0 => ?_⟩, ?_, ?_⟩
  · by_cases e : c = d
    · subst e; rw [s2]; omega
    · rw [s1 c e]; exact i1 c hc
  · by_cases e : u = t
    · subst e
      rw [k2]
      exact ⟨(List.nodup_cons.mp hnd).2, fun c hc => (i2 u hu).2 c (by rw [hs]; simp [hc])⟩
    · rw [k1 u e]; exact i2 u hu
  · by_cases ec : c = d
    · subst ec
      rw [s2]
      refine ⟨fun q => by omega, fun q => ?_⟩
      by_cases e : u = t
      · subst e; rw [k2] at q; exact absurd q hdl
      · rw [k1 u e] at q
        exact absurd (sk_one hI hu ht q (by rw [hs]; simp)) e
    · rw [s1 c ec]
      by_cases e : u = t
      · subst e
        rw [k2, i3 u c hu hc, hs]
        simp [ec]
      · rw [k1 u e]; exact i3 u c hu hc
  · rw [pr]; exact i4
  · rw [pr]
    by_cases eu : u = t
    · subst eu
      rw [k2] at e
      exact i5 u hu c (d :: l1) l2 (by rw [hs, e]; rfl)
    · rw [k1 u eu] at e
      exact i5 u hu c l1 l2 e
  · rw [pr, fl]
    by_cases e : u = t
    · subst e
      exact ⟨(i6 u hu).1, fun q => absurd hf q⟩
    · rw [tp u e]; exact i6 u hu
  · rw [pr]
    by_cases e : c = d
    · subst e; rw [s2] at h0; omega
    · rw [s1 c e] at h0; exact i7 c hc h0
  · rw [pr, tpt]
    exact i5 t ht d [] l hs
  · rw [fl]; exact hf
theorem inv_push {M : cs_Mem} {S : Ms} {t x : Nat} (hI : InvS M S) (ht : t < 3) (hx : x < 8) (hn : x < pgN M) (h0 : mSt S x = 0) (hp : mPr S (mTop S t) < pgL M (mTop S t)) (hf : mFl S t = 0) : InvS M (mPush S t x) := by
  obtain ⟨i1, i2, i3, i4, i5, i6, i7⟩ := id hI
  have hni : ∀ u, u < 3 → x ∉ mSk S u := fun u hu q => by have := (i3 u x hu hx).mpr q; omega
  have k1 : ∀ u, u ≠ t → mSk (mPush S t x) u = mSk S u := fun u hu => va_up_ne _ _ hu
  have k2 : mSk (mPush S t x) t = x :: mSk S t := va_up_self _ _ _
  have s1 : ∀ c, c ≠ x → mSt (mPush S t x) c = mSt S c := fun c hc => va_up_ne _ _ hc
  have s2 : mSt (mPush S t x) x = 4 + t := va_up_self _ _ _
  have p1 : ∀ c, c ≠ x → mPr (mPush S t x) c = mPr S c := fun c hc => va_up_ne _ _ hc
  have p2 : mPr (mPush S t x) x = 0 := va_up_self _ _ _
  have fl : mFl (mPush S t x) = mFl S := rfl
  have bl : ∀ u l2 c l1, u < 3 → mSk S u = l1 ++ c :: l2 → mTopL l2 u ≠ x := by
    intro u l2 c l1 hu e q
    rcases topL_cases l2 u with ⟨a1, a2⟩ | ⟨d, r, a1, a2⟩
    · omega
    · exact hni u hu (by rw [e, a1]; simp; right; right; left; omega)
  have tx : ∀ u, u < 3 → mTop S u ≠ x := by
    intro u hu q
    rcases top_cases (S := S) (t := u) with ⟨a1, a2⟩ | ⟨d, r, a1, a2⟩
    · omega
    · exact hni u hu (by rw [a1]; simp; left; omega)
  refine ⟨fun c hc => ?_, fun u hu => ?_, fun u c hu hc => ?_, fun f hf' => ?_, fun u hu c l1 l2 e => ?_, fun u hu => ?_, fun c hc hz => ?_⟩
  · by_cases e : c = x
    · subst e; rw [s2]; omega
    · rw [s1 c e]; exact i1 c hc
  · by_cases e : u = t
    · subst e
      rw [k2]
      refine ⟨List.nodup_cons.mpr ⟨hni u hu, (i2 u hu).1⟩, fun c hc => ?_⟩
      rcases List.mem_cons.mp hc with rfl | hc
      · exact ⟨hx, hn⟩
      · exact (i2 u hu).2 c hc
    · rw [k1 u e]; exact i2 u hu
  · by_cases ec : c = x
    · subst ec
      rw [s2]
      by_cases e : u = t
      · subst e; rw [k2]; simp
      · rw [k1 u e]
        exact ⟨fun q => by omega, fun q => absurd q (hni u hu)⟩
    · rw [s1 c ec]
      by_cases e : u = t
      · subst e
        rw [k2, i3 u c hu hc]
        simp [ec]
      · rw [k1 u e]; exact i3 u c hu hc
  · by_cases e : f = x
    · subst e; rw [p2]; omega
    · rw [p1 f e]; exact i4 f hf'
  · by_cases eu : u = t
    · subst eu
      rw [k2] at e
      cases l1 with
      | nil =>
        simp at e
        obtain ⟨rfl, e3⟩ := e
        have : mTopL l2 u = mTop S u := by unfold mTop; rw [e3]
        rw [this, p1 _ (tx u hu)]
        exact hp
      | cons a l1 =>
        simp at e
        rw [p1 _ (bl u l2 c l1 hu e.2)]
        exact i5 u hu c l1 l2 e.2
    · rw [k1 u eu] at e
      rw [p1 _ (bl u l2 c l1 hu e)]
      exact i5 u hu c l1 l2 e
  · rw [fl]
    by_cases e : u = t
    · subst e
      exact ⟨(i6 u hu).1, fun q => absurd hf q⟩
    · have : mTop (mPush S t x) u = mTop S u := by unfold mTop; rw [k1 u e]
      rw [this, p1 _ (tx u hu)]
      exact i6 u hu
  · by_cases e : c = x
    · subst e; exact p2
    · rw [p1 c e]
      rw [s1 c e] at hz
      exact i7 c hc hz
