/-! the class's doing methods are the abstract machine's -/
def EncL (S : Ms) (row : Nat → Int32) : Prop := ∀ i, i < (mLg S).length → row i = (mLg S).getD i 0
def PE (M N : cs_Mem) : Prop := ∀ i, i < 52 → N i = M i
def R3 (S S' : Ms) (k : Nat) (M N : cs_Mem) (j : Nat) : Prop := EncC S' k (N (j + 1)) ∧ (EncL S (M (j + 2)) → EncL S' (N (j + 2))) ∧ ∀ i, i ≠ j + 1 → i ≠ j + 2 → N i = M i
theorem R3.trans {S S' S'' : Ms} {k k' : Nat} {M N O : cs_Mem} {j : Nat} (h : R3 S S' k M N j) (g : R3 S' S'' k' N O j) : R3 S S'' k' M O j :=
  ⟨g.1, fun q => g.2.1 (h.2.1 q), fun i h1 h2 => (g.2.2 i h1 h2).trans (h.2.2 i h1 h2)⟩
theorem R3.row {S S' : Ms} {k : Nat} {M : cs_Mem} {j : Nat} {r : Nat → Int32} (h : EncC S' k r) (hl : mLg S' = mLg S) : R3 S S' k M (cs_up M (j + 1) r) j := by
  refine ⟨by rw [cs_up_self]; exact h, fun q => ?_, fun i h1 _ => cs_up_ne _ _ h1⟩
  rw [cs_up_ne _ _ (by omega)]
  unfold EncL at *
  rw [hl]
  exact q
theorem R3.refl {S : Ms} {k : Nat} {M : cs_Mem} {j : Nat} (h : EncC S k (M (j + 1))) : R3 S S k M M j := ⟨h, fun q => q, fun _ _ _ => rfl⟩
theorem R3.pe {S S' : Ms} {k : Nat} {M N : cs_Mem} {j : Nat} (hj : j = 52 ∨ j = 56) (h : R3 S S' k M N j) : PE M N := fun i hi => h.2.2 i (by omega) (by omega)
theorem PE.L {M N : cs_Mem} (h : PE M N) {f : Nat} (hf : f < 11) : pgL N f = pgL M f := by unfold pgL; rw [h _ (by omega)]
theorem PE.U {M N : cs_Mem} (h : PE M N) {f : Nat} (hf : f < 11) : pgU N f = pgU M f := by unfold pgU; rw [h _ (by omega)]
theorem PE.A {M N : cs_Mem} (h : PE M N) {f : Nat} (hf : f < 11) (p : Nat) : pgA N f p = pgA M f p := by unfold pgA; rw [h _ (by omega)]
theorem PE.X {M N : cs_Mem} (h : PE M N) {f : Nat} (hf : f < 11) (p : Nat) : pgX N f p = pgX M f p := by unfold pgX; rw [h _ (by omega)]
theorem PE.Y {M N : cs_Mem} (h : PE M N) {f : Nat} (hf : f < 11) (p : Nat) : pgY N f p = pgY M f p := by unfold pgY; rw [h _ (by omega)]
theorem PE.N {M N : cs_Mem} (h : PE M N) : pgN N = pgN M := by unfold pgN; rw [h 1 (by omega)]
theorem PE.wp {M N : cs_Mem} (h : PE M N) (hW : WP M) : WP N := by
  refine ⟨?_, ?_, ?_, fun f hf => ?_⟩
  · rw [h 1 (by omega)]; exact hW.1
  · rw [h 3 (by omega)]; exact hW.2.1
  · rw [h 2 (by omega)]; exact hW.2.2.1
  · have w := hW.2.2.2 f hf
    unfold WPf at *
    rw [h (8 + 4 * f) (by omega), h.L hf, h.U hf]
    refine ⟨w.1, w.2.1, fun p hp => ?_⟩
    rw [h.A hf, h.X hf, h.Y hf]
    exact w.2.2 p hp
theorem PE.come {M N : cs_Mem} (h : PE M N) {S : Ms} {t v : Nat} (hT : mTop S t < 11) : mCome N S t v = mCome M S t v := by
  unfold mCome
  rw [h.A hT]
theorem PE.made {M N : cs_Mem} (h : PE M N) {S : Ms} {t : Nat} (hT : mTop S t < 11) : mMade N S t = mMade M S t := by
  unfold mMade
  rw [h.L hT, h.A hT, h.X hT, h.Y hT, h 4 (by omega)]
theorem PE.uso {M N : cs_Mem} (h : PE M N) {f : Nat} (hf : f < 11) (p : Nat) : us N f p = us M f p := by
  unfold us
  rw [h.L hf, h.A hf, h.X hf, h.Y hf, h 3 (by omega)]
theorem in42 {M : cs_Mem} {j : Nat} (hj : j = 52 ∨ j = 56) (a : Nat) (h : a < 43) : vp_in (nI a) (cs_ln M (j + 1)) := by
  rw [hcl hj]
  exact vp_in_nI h (by omega)
theorem c_write {M : cs_Mem} {S : Ms} {j k : Nat} {x : Int32} (hj : j = 52 ∨ j = 56) (hE : EncC S k (M (j + 1))) (hl : (mLg S).length < 49) : pre_Ma_write M j x ∧ R3 S (mLog S x) k M (f_Ma_write M j x) j := by
  have e42 : M (j + 1) 42 = nI (mLg S).length := hE.2.2.2.2.2.2.2
  have hn : ¬ (nI (cs_ln M (j + 2)) ≤ M (j + 1) 42) := by
    rw [hcl2 hj, e42]
    exact fun q => absurd ((nle (by omega) (by omega)).mp q) (by omega)
  have hN : ∀ r, cs_up M (j + 2) r (j + 1) = M (j + 1) := fun r => cs_up_ne _ _ (by omega)
  constructor
  · unfold pre_Ma_write
    simp only [cs_bd_prop]
    refine ⟨in42 hj 42 (by omega), fun q => absurd q hn, fun _ => ⟨in42 hj 42 (by omega), ?_, in42 hj 42 (by omega), in42 hj 42 (by omega), trivial⟩⟩
    rw [hcl2 hj, e42]
    exact vp_in_nI hl (by omega)
  · unfold f_Ma_write
    simp only [cs_bd_eq]
    rw [if_neg hn, hN, e42, nI_clamp (by omega)]
    refine ⟨by rw [cs_up_self]; exact hE.log, fun q => ?_, fun i h1 h2 => ?_⟩
    · rw [cs_up_ne _ _ (by omega), cs_up_self]
      intro i hi
      have hi : i < (mLg S).length + 1 := by simpa [mLog, mLg] using hi
      show upd (M (j + 2)) (mLg S).length x i = (mLg S ++ [x]).getD i 0
      by_cases e : i = (mLg S).length
      · subst e
        rw [up_s]
        simp [List.getD_eq_getElem?_getD]
      · rw [up_n e, q i (by omega)]
        simp only [List.getD_eq_getElem?_getD]
        rw [List.getElem?_append_left (by omega)]
    · rw [cs_up_ne _ _ h1, cs_up_ne _ _ h2]
theorem c_num {M : cs_Mem} {v : Nat} (h1 : 1 ≤ v) (hv : v ≤ 40) : f_Fa_number M (nI v) = fnum v := by
  unfold f_Fa_number f_Fa_isException fnum
  simp only [cs_bd_eq]
  rcases (show v = 1 ∨ v = 2 ∨ v = 3 ∨ v = 4 ∨ v = 5 ∨ v = 6 ∨ v = 7 ∨ v = 8 ∨ v = 9 ∨ v = 10 ∨ v = 11 ∨ v = 12 ∨ v = 13 ∨ v = 14 ∨ v = 15 ∨ v = 16 ∨ v = 17 ∨ v = 18 ∨ v = 19 ∨ v = 20 ∨ v = 21 ∨ v = 22 ∨ v = 23 ∨ v = 24 ∨ v = 25 ∨ v = 26 ∨ v = 27 ∨ v = 28 ∨ v = 29 ∨ v = 30 ∨ v = 31 ∨ v = 32 ∨ v = 33 ∨ v = 34 ∨ v = 35 ∨ v = 36 ∨ v = 37 ∨ v = 38 ∨ v = 39 ∨ v = 40 by omega) with rfl | rfl | rfl | rfl | rfl | rfl | rfl | rfl | rfl | rfl | rfl | rfl | rfl | rfl | rfl | rfl | rfl | rfl | rfl | rfl | rfl | rfl | rfl | rfl | rfl | rfl | rfl | rfl | rfl | rfl | rfl | rfl | rfl | rfl | rfl | rfl | rfl | rfl | rfl | rfl <;> decide
theorem c_out {M : cs_Mem} {v : Nat} (hv : v ≤ 40) : f_Fa_outside M (nI v) = nI (fout v) := by
  unfold f_Fa_outside f_Fa_isException fout
  simp only [cs_bd_eq]
  rcases (show v = 0 ∨ v = 1 ∨ v = 2 ∨ v = 3 ∨ v = 4 ∨ v = 5 ∨ v = 6 ∨ v = 7 ∨ v = 8 ∨ v = 9 ∨ v = 10 ∨ v = 11 ∨ v = 12 ∨ v = 13 ∨ v = 14 ∨ v = 15 ∨ v = 16 ∨ v = 17 ∨ v = 18 ∨ v = 19 ∨ v = 20 ∨ v = 21 ∨ v = 22 ∨ v = 23 ∨ v = 24 ∨ v = 25 ∨ v = 26 ∨ v = 27 ∨ v = 28 ∨ v = 29 ∨ v = 30 ∨ v = 31 ∨ v = 32 ∨ v = 33 ∨ v = 34 ∨ v = 35 ∨ v = 36 ∨ v = 37 ∨ v = 38 ∨ v = 39 ∨ v = 40 by omega) with rfl | rfl | rfl | rfl | rfl | rfl | rfl | rfl | rfl | rfl | rfl | rfl | rfl | rfl | rfl | rfl | rfl | rfl | rfl | rfl | rfl | rfl | rfl | rfl | rfl | rfl | rfl | rfl | rfl | rfl | rfl | rfl | rfl | rfl | rfl | rfl | rfl | rfl | rfl | rfl | rfl <;> decide
theorem c_gd {M : cs_Mem} {f p : Nat} (hp : p < 1000) : f_Sc_isGuarded M (8 + 4 * f) (nI p) = if 0 < p ∧ pgA M f (p - 1) = 6 then 1 else 0 := by
  unfold f_Sc_isGuarded
  have e0 : (nI p ≤ 0) ↔ p ≤ 0 := nle (b := 0) (by omega) (by decide)
  by_cases h : p = 0
  · subst h
    rw [if_pos (by decide), if_neg (by omega)]
  · have e1 : (nI p - 1).toNatClampNeg = p - 1 := by
      rw [show nI p - 1 = nI (p - 1) from pk_sub (b := 1) (by omega)]
      exact nI_clamp (by omega)
    rw [if_neg (fun q => absurd (e0.mp q) (by omega)), e1]
    show (if pgA M f (p - 1) = 6 then (1 : Int32) else 0) = _
    by_cases q : pgA M f (p - 1) = 6
    · rw [if_pos q, if_pos ⟨by omega, q⟩]
    · rw [if_neg q, if_neg (fun z => q z.2)]
theorem c_come {M : cs_Mem} {S : Ms} {j k t v : Nat} (hj : j = 52 ∨ j = 56) (hW : WP M) (hE : EncC S k (M (j + 1))) (ht : t < 3) (hT : mTop S t < 11) (hP : mPr S (mTop S t) ≤ pgL M (mTop S t)) (h1 : 1 ≤ v) (hv : v ≤ 40) (hl : 0 < mPr S (mTop S t) ∧ pgA M (mTop S t) (mPr S (mTop S t) - 1) = 6 → (mLg S).length < 49) :
    pre_Ma_come M j (nI t) (nI v) ∧ R3 S (mCome M S t v) k M (f_Ma_come M j (nI t) (nI v)) j := by
  have hL := wpL hW hT
  have hp8 : mPr S (mTop S t) ≤ 8 := by omega
  have et := c_top hE ht
  have ep : M (j + 1) (24 + nI (mTop S t)).toNatClampNeg = nI (mPr S (mTop S t)) := by rw [ix24 (by omega)]; exact hE.2.2.1 _ hT
  have eg := c_gd (M := M) (f := mTop S t) (p := mPr S (mTop S t)) (by omega)
  have in24 : ∀ N : cs_Mem, vp_in (24 + nI (mTop S t)) (cs_ln N (j + 1)) := fun N => by rw [hcl hj]; exact inK 24 _ 43 (by omega) (by omega)
  constructor
  · unfold pre_Ma_come
    simp only [cs_bd_prop]
    rw [et]
    unfold f_Pr_script pre_Pr_script
    rw [nI_clamp (by omega), ep, eg]
    refine ⟨p_top hj ht, ⟨vp_in_nI hT (by omega), trivial⟩, in24 M, ⟨fun _ => trivial, fun h0 => ⟨?_, trivial⟩⟩, fun _ => ⟨by rw [hcl hj]; exact inK 38 t 43 (by omega) (by omega), trivial⟩, fun h0 => ?_⟩
    · have hpos : 0 < mPr S (mTop S t) := by
        rcases Nat.eq_zero_or_pos (mPr S (mTop S t)) with q | q
        · rw [q] at h0; exact absurd (by decide) h0
        · exact q
      rw [show nI (mPr S (mTop S t)) - 1 = nI (mPr S (mTop S t) - 1) from pk_sub (b := 1) (by omega), (sln hT).1]
      exact vp_in_nI (by omega) (by split <;> omega)
    · have hg : 0 < mPr S (mTop S t) ∧ pgA M (mTop S t) (mPr S (mTop S t) - 1) = 6 := by
        by_cases q : 0 < mPr S (mTop S t) ∧ pgA M (mTop S t) (mPr S (mTop S t) - 1) = 6
        · exact q
        · rw [if_neg q] at h0; exact absurd rfl h0
      exact ⟨(c_write hj hE (hl hg)).1, in24 _, in24 _, trivial⟩
  · unfold f_Ma_come mCome
    simp only [cs_bd_eq]
    rw [et]
    unfold f_Pr_script
    rw [nI_clamp (by omega), ep, eg]
    by_cases hg : 0 < mPr S (mTop S t) ∧ pgA M (mTop S t) (mPr S (mTop S t) - 1) = 6
    · rw [if_pos hg, if_pos hg, if_neg (by decide), c_num h1 hv]
      have w := (c_write (x := fnum v) hj hE (hl hg)).2
      refine w.trans ?_
      rw [ix24 (by omega), w.1.2.2.1 _ hT]
      exact R3.row (w.1.incP hT) rfl
    · rw [if_neg hg, if_neg hg, if_pos rfl, ix38 (by omega)]
      exact R3.row (hE.setF ht) rfl
