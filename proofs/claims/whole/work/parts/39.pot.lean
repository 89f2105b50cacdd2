/-! the potentials: how many steps and how many logged numbers there can be -/
def sm (g : Nat → Nat) : Nat := g 0 + g 1 + g 2 + g 3 + g 4 + g 5 + g 6 + g 7 + g 8 + g 9 + g 10
def w1 (S : Ms) (f : Nat) : Nat := if f < 8 then (if mSt S f = 0 then 10 else if 4 ≤ mSt S f then 9 - mPr S f else 0) else 3 - mPr S f
def w2 (M : cs_Mem) (S : Ms) (f : Nat) : Nat := mPr S f - pgU M f
def f1 (S : Ms) (t : Nat) : Nat := if mFl S t = 0 then 0 else 1
def fs (S : Ms) : Nat := f1 S 0 + f1 S 1 + f1 S 2
def Gd (M : cs_Mem) (S : Ms) (a c b : Nat) : Prop := InvS M S ∧ a + sm (w1 S) ≤ c + fs S ∧ b + (mLg S).length ≤ sm (w2 M S)
theorem lt11 {P : Nat → Prop} (h0 : P 0) (h1 : P 1) (h2 : P 2) (h3 : P 3) (h4 : P 4) (h5 : P 5) (h6 : P 6) (h7 : P 7) (h8 : P 8) (h9 : P 9) (h10 : P 10) : ∀ f, f < 11 → P f := by
  intro f hf
  match f, hf with
  | 0, _ => exact h0
  | 1, _ => exact h1
  | 2, _ => exact h2
  | 3, _ => exact h3
  | 4, _ => exact h4
  | 5, _ => exact h5
  | 6, _ => exact h6
  | 7, _ => exact h7
  | 8, _ => exact h8
  | 9, _ => exact h9
  | 10, _ => exact h10
theorem sm_one {g g' : Nat → Nat} : ∀ f, f < 11 → (∀ e, e ≠ f → g' e = g e) → sm g' + g f = sm g + g' f := by
  refine lt11 ?_ ?_ ?_ ?_ ?_ ?_ ?_ ?_ ?_ ?_ ?_ <;> (intro h; unfold sm; have a0 := h 0; have a1 := h 1; have a2 := h 2; have a3 := h 3; have a4 := h 4; have a5 := h 5; have a6 := h 6; have a7 := h 7; have a8 := h 8; have a9 := h 9; have a10 := h 10; simp at a0 a1 a2 a3 a4 a5 a6 a7 a8 a9 a10; omega)
theorem sm_same {g g' : Nat → Nat} (h : ∀ e, e < 11 → g' e = g e) : sm g' = sm g := by
  unfold sm
  rw [h 0 (by omega), h 1 (by omega), h 2 (by omega), h 3 (by omega), h 4 (by omega), h 5 (by omega), h 6 (by omega), h 7 (by omega), h 8 (by omega), h 9 (by omega), h 10 (by omega)]
theorem sm_le {g g' : Nat → Nat} (h : ∀ e, e < 11 → g e ≤ g' e) : sm g ≤ sm g' := by
  unfold sm
  have := h 0 (by omega)
  have := h 1 (by omega)
  have := h 2 (by omega)
  have := h 3 (by omega)
  have := h 4 (by omega)
  have := h 5 (by omega)
  have := h 6 (by omega)
  have := h 7 (by omega)
  have := h 8 (by omega)
  have := h 9 (by omega)
  have := h 10 (by omega)
  omega
theorem sm3 {g : Nat → Nat} {a b c : Nat} (ha : a < 11) (hb : b < 11) (hc : c < 11) (ab : a ≠ b) (ac : a ≠ c) (bc : b ≠ c) : g a + g b + g c ≤ sm g := by
  have e1 := sm_one (g := g) (g' := va_up g a 0) a ha (fun e he => va_up_ne _ _ he)
  have e2 := sm_one (g := va_up g a 0) (g' := va_up (va_up g a 0) b 0) b hb (fun e he => va_up_ne _ _ he)
  have e3 := sm_one (g := va_up (va_up g a 0) b 0) (g' := va_up (va_up (va_up g a 0) b 0) c 0) c hc (fun e he => va_up_ne _ _ he)
  rw [va_up_self] at e1 e2 e3
  rw [va_up_ne _ _ (fun q => ab q.symm)] at e2
  rw [va_up_ne _ _ (fun q => bc q.symm), va_up_ne _ _ (fun q => ac q.symm)] at e3
  omega
theorem fs_one {S S' : Ms} {t : Nat} (ht : t < 3) (h : ∀ u, u ≠ t → mFl S' u = mFl S u) : fs S' + f1 S t = fs S + f1 S' t := by
  have a0 : 0 ≠ t → f1 S' 0 = f1 S 0 := fun q => by unfold f1; rw [h 0 q]
  have a1 : 1 ≠ t → f1 S' 1 = f1 S 1 := fun q => by unfold f1; rw [h 1 q]
  have a2 : 2 ≠ t → f1 S' 2 = f1 S 2 := fun q => by unfold f1; rw [h 2 q]
  unfold fs
  match t, ht with
  | 0, _ => rw [a1 (by omega), a2 (by omega)]; omega
  | 1, _ => rw [a0 (by omega), a2 (by omega)]; omega
  | 2, _ => rw [a0 (by omega), a1 (by omega)]; omega
theorem f1z {S : Ms} {t : Nat} (h : mFl S t = 0) : f1 S t = 0 := by unfold f1; rw [if_pos h]
theorem f1n {S : Ms} {t : Nat} (h : ¬ mFl S t = 0) : f1 S t = 1 := by unfold f1; rw [if_neg h]
theorem top_st {M : cs_Mem} {S : Ms} (hI : InvS M S) {t : Nat} (ht : t < 3) (h : mTop S t < 8) : mSt S (mTop S t) = 4 + t := by
  rcases top_cases (S := S) (t := t) with ⟨a1, a2⟩ | ⟨d, l, a1, a2⟩
  · omega
  · rw [a2]; exact (hI.2.2.1 t d ht (by omega)).mpr (by rw [a1]; simp)
theorem fs_le {M : cs_Mem} {S : Ms} (hW : WP M) (hI : InvS M S) : fs S ≤ sm (w1 S) := by
  have k : ∀ t, t < 3 → f1 S t ≤ w1 S (mTop S t) := by
    intro t ht
    unfold f1 w1
    by_cases hf : mFl S t = 0
    · rw [if_pos hf]; omega
    · rw [if_neg hf]
      have hp := (hI.2.2.2.2.2.1 t ht).2 hf
      have hT := top_lt hI ht
      have hL := wpL hW hT
      by_cases h8 : mTop S t < 8
      · have := top_st hI ht h8
        rw [if_pos h8, if_neg (by omega), if_pos (by omega)]
        omega
      · rw [if_neg h8]
        have hL2 := hL.2.1
        rw [if_neg h8] at hL2
        omega
  have n01 : mTop S 0 ≠ mTop S 1 := fun q => by have := tops_ne hI (t := 0) (u := 1) (by omega) (by omega) q; omega
  have n02 : mTop S 0 ≠ mTop S 2 := fun q => by have := tops_ne hI (t := 0) (u := 2) (by omega) (by omega) q; omega
  have n12 : mTop S 1 ≠ mTop S 2 := fun q => by have := tops_ne hI (t := 1) (u := 2) (by omega) (by omega) q; omega
  have := sm3 (g := w1 S) (top_lt hI (t := 0) (by omega)) (top_lt hI (t := 1) (by omega)) (top_lt hI (t := 2) (by omega)) n01 n02 n12
  have := k 0 (by omega)
  have := k 1 (by omega)
  have := k 2 (by omega)
  unfold fs
  omega
theorem w2_le {M : cs_Mem} {S : Ms} (hW : WP M) (hI : InvS M S) : sm (w2 M S) ≤ 49 := by
  refine Nat.le_trans (sm_le (g' := fun f => if f < 8 then 5 else 3) (fun f hf => ?_)) (Nat.le_of_ble_eq_true rfl)
  obtain ⟨L, U, e1, e2, h1, h2, h3, h4⟩ := (hW.2.2.2 f hf).1
  have hp := hI.2.2.2.1 f hf
  have b1 : L ≤ 8 := by split at h4 <;> omega
  have eL : pgL M f = L := by unfold pgL; rw [e1, nI_clamp (by omega)]
  have eU : pgU M f = U := by unfold pgU; rw [e2, nI_clamp (by omega)]
  unfold w2
  rw [eU]
  rw [eL] at hp
  show mPr S f - U ≤ if f < 8 then 5 else 3
  by_cases h8 : f < 8
  · rw [if_pos h8] at h3 ⊢; omega
  · rw [if_neg h8] at h3 ⊢; omega
theorem gd_log {M : cs_Mem} {S : Ms} {a c b : Nat} {x : Int32} (h : Gd M S a c (b + 1)) : Gd M (mLog S x) a c b := by
  refine ⟨inv_log h.1, h.2.1, ?_⟩
  have := h.2.2
  show b + (mLg S ++ [x]).length ≤ sm (w2 M S)
  simp
  omega
theorem gd_set0 {M : cs_Mem} {S : Ms} {a c b d : Nat} {x : Int32} (h : Gd M S a c b) : Gd M (mSet0 S d x) a c b := h
theorem gd_incP {M : cs_Mem} {S : Ms} {a c b t : Nat} (hW : WP M) (h : Gd M S a c b) (ht : t < 3) (hp : mPr S (mTop S t) < pgL M (mTop S t)) (hf : mFl S t = 0) : Gd M (mIncP S (mTop S t)) (a + 1) c b ∧ (pgU M (mTop S t) ≤ mPr S (mTop S t) → Gd M (mIncP S (mTop S t)) (a + 1) c (b + 1)) := by
  have hI := h.1
  have hT := top_lt hI ht
  have hL := wpL hW hT
  have ne : ∀ g, g ≠ mTop S t → mPr (mIncP S (mTop S t)) g = mPr S g := fun g hg => by simp [mIncP, mPr, va_up, hg]
  have eq : mPr (mIncP S (mTop S t)) (mTop S t) = mPr S (mTop S t) + 1 := va_up_self _ _ _
  have hst : mSt (mIncP S (mTop S t)) = mSt S := rfl
  have hfl : fs (mIncP S (mTop S t)) = fs S := rfl
  have hlg : mLg (mIncP S (mTop S t)) = mLg S := rfl
  have q1 := sm_one (g := w1 S) (g' := w1 (mIncP S (mTop S t))) (mTop S t) hT (fun e he => by unfold w1; rw [hst, ne e he])
  have q2 := sm_one (g := w2 M S) (g' := w2 M (mIncP S (mTop S t))) (mTop S t) hT (fun e he => by unfold w2; rw [ne e he])
  have r1 : w1 (mIncP S (mTop S t)) (mTop S t) + 1 = w1 S (mTop S t) := by
    unfold w1
    rw [hst, eq]
    by_cases h8 : mTop S t < 8
    · have := top_st hI ht h8
      rw [if_pos h8, if_pos h8, if_neg (by omega), if_pos (by omega), if_neg (by omega), if_pos (by omega)]
      omega
    · rw [if_neg h8, if_neg h8]
      have hL2 := hL.2.1
      rw [if_neg h8] at hL2
      omega
  have hi := inv_incP hI ht hp hf
  have h2 := h.2.1
  have h3 := h.2.2
  refine ⟨⟨hi, by rw [hfl]; omega, ?_⟩, fun hu => ⟨hi, by rw [hfl]; omega, ?_⟩⟩
  · rw [hlg]
    have : w2 M S (mTop S t) ≤ w2 M (mIncP S (mTop S t)) (mTop S t) := by unfold w2; rw [eq]; omega
    omega
  · rw [hlg]
    have : w2 M S (mTop S t) + 1 = w2 M (mIncP S (mTop S t)) (mTop S t) := by unfold w2; rw [eq]; omega
    omega
theorem gd_setF {M : cs_Mem} {S : Ms} {a c b t v : Nat} (h : Gd M S a c b) (ht : t < 3) (h1 : 1 ≤ v) (hv : v ≤ 40) (hp : mPr S (mTop S t) < pgL M (mTop S t)) (hf : mFl S t = 0) : Gd M (mSetF S t v) (a + 1) c b := by
  have q := fs_one (S := S) (S' := mSetF S t v) ht (fun u hu => va_up_ne _ _ hu)
  rw [f1z hf, f1n (show ¬ mFl (mSetF S t v) t = 0 from by show ¬ va_up (mFl S) t v t = 0; rw [va_up_self]; omega)] at q
  have e1 : sm (w1 (mSetF S t v)) = sm (w1 S) := rfl
  have h2 := h.2.1
  exact ⟨inv_setF h.1 ht hv hp, by rw [e1]; omega, h.2.2⟩
theorem gd_setF0 {M : cs_Mem} {S : Ms} {a c b t : Nat} (h : Gd M S a c b) (ht : t < 3) (hf : ¬ mFl S t = 0) : Gd M (mSetF S t 0) a (c + 1) b := by
  have q := fs_one (S := S) (S' := mSetF S t 0) ht (fun u hu => va_up_ne _ _ hu)
  rw [f1n hf, f1z (show mFl (mSetF S t 0) t = 0 from va_up_self _ _ _)] at q
  have e1 : sm (w1 (mSetF S t 0)) = sm (w1 S) := rfl
  have h2 := h.2.1
  exact ⟨inv_setF0 h.1, by rw [e1]; omega, h.2.2⟩
theorem gd_pop {M : cs_Mem} {S : Ms} {a c b t v d : Nat} {l : List Nat} (h : Gd M S a c b) (ht : t < 3) (hv : v = 1 ∨ v = 2) (hs : mSk S t = d :: l) (hf : mFl S t = 0) : Gd M (mPop S t v) (a + (9 - mPr S d)) c b := by
  have hI := h.1
  have e0 : mPop S t v = (va_up (mSt S) d v, mS0 S, va_up (mSk S) t l, mPr S, mFl S, mLg S) := by unfold mPop; rw [hs]
  have hd : d < 8 := sk_lt hI ht d (by rw [hs]; simp)
  have hst := (hI.2.2.1 t d ht hd).mpr (by rw [hs]; simp)
  have q1 := sm_one (g := w1 S) (g' := w1 (mPop S t v)) d (by omega) (fun e he => by
    have : mSt (mPop S t v) e = mSt S e := by rw [e0]; exact va_up_ne _ _ he
    have p : mPr (mPop S t v) = mPr S := by rw [e0]; rfl
    unfold w1; rw [this, p])
  have s2 : mSt (mPop S t v) d = v := by rw [e0]; exact va_up_self _ _ _
  have r1 : w1 (mPop S t v) d = 0 := by unfold w1; rw [s2, if_pos hd, if_neg (by omega), if_neg (by omega)]
  have r2 : w1 S d = 9 - mPr S d := by unfold w1; rw [hst, if_pos hd, if_neg (by omega), if_pos (by omega)]
  have hfl : fs (mPop S t v) = fs S := by rw [e0]; rfl
  have hlg : mLg (mPop S t v) = mLg S := by rw [e0]; rfl
  have hw2 : w2 M (mPop S t v) = w2 M S := by rw [e0]; rfl
  have h2 := h.2.1
  exact ⟨(inv_pop hI ht hv hs hf).1, by rw [hfl]; omega, by rw [hlg, hw2]; exact h.2.2⟩
theorem gd_push {M : cs_Mem} {S : Ms} {a c b t x : Nat} (h : Gd M S a c b) (ht : t < 3) (hx : x < 8) (hn : x < pgN M) (h0 : mSt S x = 0) (hp : mPr S (mTop S t) < pgL M (mTop S t)) (hf : mFl S t = 0) : Gd M (mPush S t x) (a + 1) c b := by
  have hI := h.1
  have p0 : mPr S x = 0 := hI.2.2.2.2.2.2 x hx h0
  have s2 : mSt (mPush S t x) x = 4 + t := va_up_self _ _ _
  have p2 : mPr (mPush S t x) x = 0 := va_up_self _ _ _
  have q1 := sm_one (g := w1 S) (g' := w1 (mPush S t x)) x (by omega) (fun e he => by
    have e1 : mSt (mPush S t x) e = mSt S e := va_up_ne _ _ he
    have e2 : mPr (mPush S t x) e = mPr S e := va_up_ne _ _ he
    unfold w1; rw [e1, e2])
  have r1 : w1 (mPush S t x) x = 9 := by unfold w1; rw [s2, p2, if_pos hx, if_neg (by omega), if_pos (by omega)]
  have r2 : w1 S x = 10 := by unfold w1; rw [h0, if_pos hx, if_pos rfl]
  have hfl : fs (mPush S t x) = fs S := rfl
  have hlg : mLg (mPush S t x) = mLg S := rfl
  have hw2 : sm (w2 M (mPush S t x)) = sm (w2 M S) := sm_same (fun e he => by
    unfold w2
    by_cases q : e = x
    · rw [q, p2, p0]
    · rw [show mPr (mPush S t x) e = mPr S e from va_up_ne _ _ q])
  have h2 := h.2.1
  exact ⟨inv_push hI ht hx hn h0 hp hf, by rw [hfl]; omega, by rw [hlg, hw2]; exact h.2.2⟩
theorem gd_come {M : cs_Mem} {S : Ms} {a c b t v : Nat} (hW : WP M) (h : Gd M S a c b) (ht : t < 3) (h1 : 1 ≤ v) (hv : v ≤ 40) (hp : mPr S (mTop S t) < pgL M (mTop S t)) (hf : mFl S t = 0) : Gd M (mCome M S t v) (a + 1) c b := by
  unfold mCome
  split
  · rename_i g
    have hT := top_lt h.1 ht
    have hu : pgU M (mTop S t) ≤ mPr S (mTop S t) := by
      obtain ⟨e, e1, e2, _, _, _, e6, _⟩ := wpA hW hT (p := mPr S (mTop S t) - 1) (by omega)
      by_cases q : mPr S (mTop S t) - 1 < pgU M (mTop S t)
      · rw [g.2, e6 q] at e1
        exact absurd e1 (by decide)
      · omega
    have := gd_log (x := fnum v) ((gd_incP hW h ht hp hf).2 hu)
    exact this
  · exact gd_setF h ht h1 hv hp hf
theorem gd_made {M : cs_Mem} {S : Ms} {a c b t : Nat} (hW : WP M) (h : Gd M S a c b) (ht : t < 3) (hp : mPr S (mTop S t) < pgL M (mTop S t)) (hf : mFl S t = 0) : Gd M (mMade M S t) (a + 1) c b := by
  unfold mMade
  split
  · exact gd_set0 (gd_incP hW h ht hp hf).1
  · exact (gd_incP hW h ht hp hf).1
theorem gd_use {M : cs_Mem} {S : Ms} {a c b t x : Nat} (hW : WP M) (h : Gd M S a c b) (ht : t < 3) (hx : x < 8) (hp : mPr S (mTop S t) < pgL M (mTop S t)) (hf : mFl S t = 0) : Gd M (mUse M S t x) (a + 1) c b := by
  unfold mUse
  split
  · rename_i hn
    split
    · rename_i h0
      exact gd_push h ht hx hn h0 hp hf
    · split
      · exact gd_come hW h ht (by omega) (by omega) hp hf
      · exact gd_made hW h ht hp hf
  · exact gd_come hW h ht (by omega) (by omega) hp hf
theorem gd_perf {M : cs_Mem} {S : Ms} {a c b t : Nat} (hW : WP M) (h : Gd M S a c b) (ht : t < 3) (hp : mPr S (mTop S t) < pgL M (mTop S t)) (hf : mFl S t = 0) : Gd M (mPerf M S t) (a + 1) c b := by
  have hT := top_lt h.1 ht
  obtain ⟨e, e1, e2, _, _, e5, e6, _⟩ := wpA hW hT (p := mPr S (mTop S t)) hp
  unfold mPerf
  split
  · exact gd_set0 (gd_incP hW h ht hp hf).1
  · split
    · exact gd_made hW h ht hp hf
    · split
      · rename_i g
        have : e = 3 := by
          rw [g] at e1
          exact ((neq (a := 3) (b := e) (by omega) (by omega)).mp e1).symm
        obtain ⟨x, x1, x2⟩ := e5 (Or.inl this)
        rw [x2, nI_clamp (by omega)]
        exact gd_come hW h ht (by omega) (by omega) hp hf
      · split
        · rename_i g
          have : e = 4 := by
            rw [g] at e1
            exact ((neq (a := 4) (b := e) (by omega) (by omega)).mp e1).symm
          obtain ⟨x, x1, x2⟩ := e5 (Or.inr this)
          rw [x2, nI_clamp (by omega)]
          exact gd_come hW h ht (by omega) (by omega) hp hf
        · split
          · rename_i g
            have hu : pgU M (mTop S t) ≤ mPr S (mTop S t) := by
              by_cases q : mPr S (mTop S t) < pgU M (mTop S t)
              · rw [g, e6 q] at e1
                exact absurd e1 (by decide)
              · omega
            exact gd_log ((gd_incP hW h ht hp hf).2 hu)
          · exact (gd_incP hW h ht hp hf).1
theorem gd_step {M : cs_Mem} {S : Ms} {a c b t : Nat} (hW : WP M) (h : Gd M S a c b) (ht : t < 3) (hne : mEnd M S t = false) : Gd M (mStep M S t) (a + 1) c b := by
  have hI := h.1
  have hT := top_lt hI ht
  have hL := wpL hW hT
  unfold mStep
  by_cases hf : mFl S t = 0
  · rw [if_pos hf]
    by_cases hp : pgL M (mTop S t) ≤ mPr S (mTop S t)
    · rw [if_pos hp]
      rcases top_cases (S := S) (t := t) with ⟨a1, a2⟩ | ⟨d, l, a1, a2⟩
      · exfalso
        unfold mEnd at hne
        rw [a1] at hne
        rw [a2] at hp
        simp [hf] at hne
        omega
      · have p1 := inv_pop hI ht (v := 1) (Or.inl rfl) a1 hf
        have g1 := gd_pop h ht (v := 1) (Or.inl rfl) a1 hf
        have g2 := gd_made hW g1 ht p1.2.1 p1.2.2
        exact ⟨g2.1, by have := g2.2.1; omega, g2.2.2⟩
    · rw [if_neg hp]
      split
      · rename_i x hx
        exact gd_use hW h ht (us_lt hW hT hx) (by omega) hf
      · exact gd_perf hW h ht (by omega) hf
  · rw [if_neg hf]
    rcases top_cases (S := S) (t := t) with ⟨a1, a2⟩ | ⟨d, l, a1, a2⟩
    · exfalso
      unfold mEnd at hne
      rw [a1] at hne
      simp [hf] at hne
    · have hpd := (hI.2.2.2.2.2.1 t ht).2 hf
      rw [a2] at hpd
      rw [a2] at hL
      have g0 := gd_setF0 h ht hf
      have z : mFl (mSetF S t 0) t = 0 := va_up_self _ _ _
      have p1 := inv_pop g0.1 ht (v := 2) (Or.inr rfl) a1 z
      have g1 := gd_pop g0 ht (v := 2) (Or.inr rfl) a1 z
      have fo := fout_in (v := mFl S t) (by omega) (fl_le hI ht)
      have g2 := gd_come hW g1 ht fo.1 fo.2 p1.2.1 p1.2.2
      have e : mPr (mSetF S t 0) d = mPr S d := rfl
      exact ⟨g2.1, by have := g2.2.1; rw [e] at this; omega, g2.2.2⟩
/-- the state that is reached after k steps -/
def St (M : cs_Mem) (S : Ms) (k : Nat) : Prop := Gd M S k 89 0
theorem St.step {M : cs_Mem} {S : Ms} {k t : Nat} (hW : WP M) (h : St M S k) (ht : t < 3) (hne : mEnd M S t = false) : St M (mStep M S t) (k + 1) := gd_step hW h ht hne
theorem St.le {M : cs_Mem} {S : Ms} {k : Nat} (hW : WP M) (h : St M S k) : k ≤ 89 := by
  have h1 := h.2.1
  have h2 := fs_le hW h.1
  omega
theorem St.lg {M : cs_Mem} {S : Ms} {k : Nat} (hW : WP M) (h : St M S k) : (mLg S).length ≤ 49 := by
  have h1 := h.2.2
  have h2 := w2_le hW h.1
  omega
theorem lg_mono {M : cs_Mem} {S : Ms} {t : Nat} : (mLg (mStep M S t)).length = (mLg S).length ∨ (mLg (mStep M S t)).length = (mLg S).length + 1 := by
  have hc : ∀ (S : Ms) v, (mLg (mCome M S t v)).length = (mLg S).length ∨ (mLg (mCome M S t v)).length = (mLg S).length + 1 := by
    intro S v
    unfold mCome
    split
    · right; show (mLg S ++ [_]).length = _; simp
    · left; rfl
  have hm : ∀ (S : Ms), mLg (mMade M S t) = mLg S := by
    intro S
    unfold mMade
    split <;> rfl
  have hp : ∀ (S : Ms) v, mLg (mPop S t v) = mLg S := by
    intro S v
    unfold mPop
    split <;> rfl
  unfold mStep
  split
  · split
    · left; rw [hm, hp]
    · split
      · unfold mUse
        split
        · split
          · left; rfl
          · split
            · exact hc _ _
            · left; rw [hm]
        · exact hc _ _
      · unfold mPerf
        split
        · left; rfl
        · split
          · left; rw [hm]
          · split
            · exact hc _ _
            · split
              · exact hc _ _
              · split
                · right; show (mLg S ++ [_]).length = _; simp
                · left; rfl
  · have := hc (mPop (mSetF S t 0) t 2) (fout (mFl S t))
    rw [hp] at this
    exact this
theorem St.adv {M : cs_Mem} {S : Ms} {j k n t : Nat} (hj : j = 52 ∨ j = 56) (hW : WP M) (h : St M S k) (hE : EncC S n (M (j + 1))) (ht : t < 3) (hne : mEnd M S t = false) : pre_Ma_advance M j (nI t) ∧ R3 S (mStep M S t) (n + 1) M (f_Ma_advance M j (nI t)) j := by
  refine c_adv hj hW h.1 hE ht hne ?_
  rcases lg_mono (M := M) (S := S) (t := t) with q | q
  · exact Or.inl q
  · right
    have := St.lg hW (St.step hW h ht hne)
    omega
theorem st0 {M : cs_Mem} (hW : WP M) : St M msZ 0 := by
  refine ⟨⟨fun _ _ => Or.inl rfl, fun _ _ => ⟨List.nodup_nil, fun _ q => by simp [mSk, msZ] at q⟩, fun t c _ _ => ?_, fun _ _ => Nat.zero_le _, fun _ _ c l1 l2 q => ?_, fun _ _ => ⟨by show 0 ≤ 40; omega, fun q => absurd rfl q⟩, fun _ _ _ => rfl⟩, Nat.le_of_ble_eq_true rfl, ?_⟩
  · constructor
    · intro q
      have q : 0 = 4 + t := q
      omega
    · intro q
      simp [mSk, msZ] at q
  · simp [mSk, msZ] at q
  · exact Nat.zero_le _
