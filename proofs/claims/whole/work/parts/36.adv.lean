theorem come_lg {M : cs_Mem} {S : Ms} {t v : Nat} (g : 0 < mPr S (mTop S t) ∧ pgA M (mTop S t) (mPr S (mTop S t) - 1) = 6) : (mLg (mCome M S t v)).length = (mLg S).length + 1 := by
  unfold mCome
  rw [if_pos g]
  simp [mIncP, mLog, mLg]
theorem c_decl {M : cs_Mem} {x : Nat} (hW : WP M) (hx : x < 1000) : f_Pr_isDeclared M 1 (nI x) = if x < pgN M then 1 else 0 := by
  obtain ⟨n, hn, en⟩ := hW.1
  have e : pgN M = n := by unfold pgN; rw [en]; exact nI_clamp (by omega)
  unfold f_Pr_isDeclared
  rw [if_neg (nI_pos (by omega)), en, e]
  by_cases h : x < n
  · rw [if_pos h, if_neg (fun q => absurd ((nle (by omega) (by omega)).mp q) (by omega))]
  · rw [if_neg h, if_pos ((nle (by omega) (by omega)).mpr (by omega))]
theorem c_use {M : cs_Mem} {S : Ms} {j k t x : Nat} (hj : j = 52 ∨ j = 56) (hW : WP M) (hI : InvS M S) (hE : EncC S k (M (j + 1))) (ht : t < 3) (hx : x < 8) (hl : (mLg (mUse M S t x)).length = (mLg S).length ∨ (mLg S).length < 49) :
    pre_Ma_use M j (nI t) (nI x) ∧ R3 S (mUse M S t x) k M (f_Ma_use M j (nI t) (nI x)) j := by
  have hT := top_lt hI ht
  have hP := hI.2.2.2.1 _ hT
  have h6 := st_le hI hx
  have ed := c_decl (x := x) hW (by omega)
  have es := c_stateOf hE hx
  have e2 : (nI (mSt S x) = 2) ↔ mSt S x = 2 := neq (b := 2) (by omega) (by decide)
  have lgc : ∀ v, mUse M S t x = mCome M S t v → (0 < mPr S (mTop S t) ∧ pgA M (mTop S t) (mPr S (mTop S t) - 1) = 6 → (mLg S).length < 49) := by
    intro v e g
    rcases hl with h | h
    · rw [e, come_lg g] at h; omega
    · exact h
  unfold pre_Ma_use f_Ma_use
  simp only [cs_bd_prop, cs_bd_eq]
  rw [ed, es]
  by_cases hd : x < pgN M
  · rw [if_pos hd, if_neg (show ¬ (1 : Int32) = 0 by decide)]
    by_cases h0 : mSt S x = 0
    · have em : mUse M S t x = mPush S t x := by unfold mUse; rw [if_pos hd, if_pos h0]
      rw [em, if_pos ((nI0 (by omega)).mpr h0)]
      have w := c_begin hj hE ht hT hx (fun u hu q => by have := (hI.2.2.1 u x hu hx).mpr q; omega)
      exact ⟨⟨fun q => absurd q (by decide), fun _ => ⟨p_stateOf hj hx, fun _ => ⟨w.1, trivial⟩, fun q => absurd ((nI0 (by omega)).mpr h0) q⟩⟩, w.2⟩
    · rw [if_neg (fun q => h0 ((nI0 (by omega)).mp q))]
      by_cases q2 : mSt S x = 2
      · have em : mUse M S t x = mCome M S t 22 := by unfold mUse; rw [if_pos hd, if_neg h0, if_pos q2]
        rw [em, if_pos (e2.mpr q2)]
        have w := c_come (v := 22) hj hW hE ht hT hP (by omega) (by omega) (lgc 22 em)
        exact ⟨⟨fun q => absurd q (by decide), fun _ => ⟨p_stateOf hj hx, fun q => absurd ((nI0 (by omega)).mp q) h0, fun _ => ⟨p_stateOf hj hx, fun _ => ⟨w.1, trivial⟩, fun q => absurd (e2.mpr q2) q⟩⟩⟩, w.2⟩
      · have em : mUse M S t x = mMade M S t := by unfold mUse; rw [if_pos hd, if_neg h0, if_neg q2]
        rw [em, if_neg (fun q => q2 (e2.mp q))]
        have w := c_made hj hW hE ht hT hP
        exact ⟨⟨fun q => absurd q (by decide), fun _ => ⟨p_stateOf hj hx, fun q => absurd ((nI0 (by omega)).mp q) h0, fun _ => ⟨p_stateOf hj hx, fun q => absurd (e2.mp q) q2, fun _ => ⟨w.1, trivial⟩⟩⟩⟩, w.2⟩
  · have em : mUse M S t x = mCome M S t 21 := by unfold mUse; rw [if_neg hd]
    rw [em, if_neg hd, if_pos rfl]
    have w := c_come (v := 21) hj hW hE ht hT hP (by omega) (by omega) (lgc 21 em)
    exact ⟨⟨fun _ => ⟨w.1, trivial⟩, fun q => absurd rfl q⟩, w.2⟩
theorem c_perf {M : cs_Mem} {S : Ms} {j k t : Nat} (hj : j = 52 ∨ j = 56) (hW : WP M) (hI : InvS M S) (hE : EncC S k (M (j + 1))) (ht : t < 3) (hp : mPr S (mTop S t) < pgL M (mTop S t)) (hl : (mLg (mPerf M S t)).length = (mLg S).length ∨ (mLg S).length < 49) :
    pre_Ma_perform M j (nI t) ∧ R3 S (mPerf M S t) k M (f_Ma_perform M j (nI t)) j := by
  have hT := top_lt hI ht
  have hP := hI.2.2.2.1 _ hT
  have hL := wpL hW hT
  have h5 := hL.2.1
  have inn : ∀ (N : cs_Mem) (a b : Nat), a + b < 43 → vp_in (nI a + nI b) (cs_ln N (j + 1)) := fun N a b h => by rw [hcl hj]; exact inK a b 43 h (by omega)
  have et := c_top hE ht
  have ep : M (j + 1) (24 + nI (mTop S t)).toNatClampNeg = nI (mPr S (mTop S t)) := by rw [ix24 (by omega)]; exact hE.2.2.1 _ hT
  have ea : f_Sc_actionAt M (8 + 4 * mTop S t) (nI (mPr S (mTop S t))) = pgA M (mTop S t) (mPr S (mTop S t)) := by rw [c_act hW hT (by omega), if_neg (by omega)]
  have pa := p_act (p := mPr S (mTop S t)) hW hT (by omega)
  obtain ⟨a, eA, h6, -, -, h34, -, h8⟩ := wpA hW hT hp
  have eX : f_Sc_firstOperandAt M (8 + 4 * mTop S t) (nI (mPr S (mTop S t))) = pgX M (mTop S t) (mPr S (mTop S t)) := by unfold f_Sc_firstOperandAt; rw [nI_clamp (by omega)]; rfl
  have eY : f_Sc_secondOperandAt M (8 + 4 * mTop S t) (nI (mPr S (mTop S t))) = pgY M (mTop S t) (mPr S (mTop S t)) := by unfold f_Sc_secondOperandAt; rw [nI_clamp (by omega)]; rfl
  have pX : pre_Sc_firstOperandAt M (8 + 4 * mTop S t) (nI (mPr S (mTop S t))) := ⟨by rw [(sln hT).2.1]; exact vp_in_nI (by omega) (by split <;> omega), trivial⟩
  have pY : pre_Sc_secondOperandAt M (8 + 4 * mTop S t) (nI (mPr S (mTop S t))) := ⟨by rw [(sln hT).2.2]; exact vp_in_nI (by omega) (by split <;> omega), trivial⟩
  have q : ∀ n, n < 100 → ((nI a = nI n) ↔ a = n) := fun n hn => neq (by omega) (by omega)
  have lgc : ∀ v, mPerf M S t = mCome M S t v → (0 < mPr S (mTop S t) ∧ pgA M (mTop S t) (mPr S (mTop S t) - 1) = 6 → (mLg S).length < 49) := by
    intro v e g
    rcases hl with h | h
    · rw [e, come_lg g] at h; omega
    · exact h
  have i24 := inn M 24 (mTop S t) (by omega)
  unfold pre_Ma_perform f_Ma_perform
  simp only [cs_bd_prop, cs_bd_eq]
  rw [et, ep]
  unfold f_Pr_script pre_Pr_script
  rw [nI_clamp (by omega), ea, eX, eY, ix24 (by omega), ix8 (by omega)]
  have pre0 : ∀ G : Prop, G → (pre_Ma_topFrame M j (nI t) ∧ vp_in (24 + nI (mTop S t)) (cs_ln M (j + 1)) ∧ (vp_in (nI (mTop S t)) 11 ∧ True) ∧ pre_Sc_actionAt M (8 + 4 * mTop S t) (nI (mPr S (mTop S t))) ∧ G) := fun G g => ⟨p_top hj ht, i24, ⟨vp_in_nI hT (by omega), trivial⟩, pa, g⟩
  rcases (show a = 1 ∨ a = 2 ∨ a = 3 ∨ a = 4 ∨ a = 5 ∨ (a = 0 ∨ a = 6) by omega) with ha | ha | ha | ha | ha | ha
  · have h1 : pgA M (mTop S t) (mPr S (mTop S t)) = 1 := by rw [eA, ha]; rfl
    have hT8 : mTop S t < 8 := by
      rcases Nat.lt_or_ge (mTop S t) 8 with z | z
      · exact z
      · have := h8 z; omega
    have em : mPerf M S t = mIncP (mSet0 S (mTop S t) (pgY M (mTop S t) (mPr S (mTop S t)))) (mTop S t) := by unfold mPerf; rw [if_pos h1]
    rw [em, if_pos h1]
    refine ⟨pre0 _ ⟨fun _ => ⟨pY, inn _ 8 _ (by omega), inn _ 24 _ (by omega), inn _ 24 _ (by omega), trivial⟩, fun z => absurd h1 z⟩, ?_⟩
    have w : R3 S (mSet0 S (mTop S t) (pgY M (mTop S t) (mPr S (mTop S t)))) k M (cs_up M (j + 1) (upd (M (j + 1)) (8 + mTop S t) (pgY M (mTop S t) (mPr S (mTop S t))))) j := R3.row (hE.set0 hT8) rfl
    refine w.trans ?_
    rw [w.1.2.2.1 _ hT]
    exact R3.row (w.1.incP hT) rfl
  · have h2 : pgA M (mTop S t) (mPr S (mTop S t)) = 2 := by rw [eA, ha]; rfl
    have n1 : ¬ pgA M (mTop S t) (mPr S (mTop S t)) = 1 := by rw [h2]; decide
    have em : mPerf M S t = mMade M S t := by unfold mPerf; rw [if_neg n1, if_pos h2]
    rw [em, if_neg n1, if_pos h2]
    have w := c_made hj hW hE ht hT hP
    exact ⟨pre0 _ ⟨fun z => absurd z n1, fun _ => ⟨fun _ => ⟨w.1, trivial⟩, fun z => absurd h2 z⟩⟩, w.2⟩
  · have h3 : pgA M (mTop S t) (mPr S (mTop S t)) = 3 := by rw [eA, ha]; rfl
    have n1 : ¬ pgA M (mTop S t) (mPr S (mTop S t)) = 1 := by rw [h3]; decide
    have n2 : ¬ pgA M (mTop S t) (mPr S (mTop S t)) = 2 := by rw [h3]; decide
    obtain ⟨y, hy, ey⟩ := h34 (Or.inl ha)
    have em : mPerf M S t = mCome M S t (1 + y) := by unfold mPerf; rw [if_neg n1, if_neg n2, if_pos h3, ey, nI_clamp (by omega)]
    rw [em, if_neg n1, if_neg n2, if_pos h3, ey, show (1 : Int32) + nI y = nI (1 + y) from nI_add 1 y]
    have w := c_come (v := 1 + y) hj hW hE ht hT hP (by omega) (by omega) (lgc _ em)
    exact ⟨pre0 _ ⟨fun z => absurd z n1, fun _ => ⟨fun z => absurd z n2, fun _ => ⟨fun _ => ⟨pX, w.1, trivial⟩, fun z => absurd h3 z⟩⟩⟩, w.2⟩
  · have h4 : pgA M (mTop S t) (mPr S (mTop S t)) = 4 := by rw [eA, ha]; rfl
    have n1 : ¬ pgA M (mTop S t) (mPr S (mTop S t)) = 1 := by rw [h4]; decide
    have n2 : ¬ pgA M (mTop S t) (mPr S (mTop S t)) = 2 := by rw [h4]; decide
    have n3 : ¬ pgA M (mTop S t) (mPr S (mTop S t)) = 3 := by rw [h4]; decide
    obtain ⟨y, hy, ey⟩ := h34 (Or.inr ha)
    have em : mPerf M S t = mCome M S t (11 + y) := by unfold mPerf; rw [if_neg n1, if_neg n2, if_neg n3, if_pos h4, ey, nI_clamp (by omega)]
    rw [em, if_neg n1, if_neg n2, if_neg n3, if_pos h4, ey, show (11 : Int32) + nI y = nI (11 + y) from nI_add 11 y]
    have w := c_come (v := 11 + y) hj hW hE ht hT hP (by omega) (by omega) (lgc _ em)
    exact ⟨pre0 _ ⟨fun z => absurd z n1, fun _ => ⟨fun z => absurd z n2, fun _ => ⟨fun z => absurd z n3, fun _ => ⟨fun _ => ⟨pX, w.1, trivial⟩, fun z => absurd h4 z⟩⟩⟩⟩, w.2⟩
  · have h5' : pgA M (mTop S t) (mPr S (mTop S t)) = 5 := by rw [eA, ha]; rfl
    have n1 : ¬ pgA M (mTop S t) (mPr S (mTop S t)) = 1 := by rw [h5']; decide
    have n2 : ¬ pgA M (mTop S t) (mPr S (mTop S t)) = 2 := by rw [h5']; decide
    have n3 : ¬ pgA M (mTop S t) (mPr S (mTop S t)) = 3 := by rw [h5']; decide
    have n4 : ¬ pgA M (mTop S t) (mPr S (mTop S t)) = 4 := by rw [h5']; decide
    have em : mPerf M S t = mIncP (mLog S (pgX M (mTop S t) (mPr S (mTop S t)))) (mTop S t) := by unfold mPerf; rw [if_neg n1, if_neg n2, if_neg n3, if_neg n4, if_pos h5']
    have hlt : (mLg S).length < 49 := by
      rcases hl with h | h
      · rw [em] at h
        simp [mIncP, mLog, mLg] at h
      · exact h
    have w := c_write (x := pgX M (mTop S t) (mPr S (mTop S t))) hj hE hlt
    rw [em, if_neg n1, if_neg n2, if_neg n3, if_neg n4, if_pos h5']
    refine ⟨pre0 _ ⟨fun z => absurd z n1, fun _ => ⟨fun z => absurd z n2, fun _ => ⟨fun z => absurd z n3, fun _ => ⟨fun z => absurd z n4, fun _ => ⟨fun _ => ⟨pX, w.1, inn _ 24 _ (by omega), inn _ 24 _ (by omega), trivial⟩, fun z => absurd h5' z⟩⟩⟩⟩⟩, ?_⟩
    refine w.2.trans ?_
    rw [w.2.1.2.2.1 _ hT]
    exact R3.row (w.2.1.incP hT) rfl
  · have nn : ∀ n, n ≠ 0 → n ≠ 6 → n < 100 → ¬ pgA M (mTop S t) (mPr S (mTop S t)) = nI n := by
      intro n h0 h6' hn z
      rw [eA] at z
      have := (q n hn).mp z
      omega
    have n1 : ¬ pgA M (mTop S t) (mPr S (mTop S t)) = 1 := nn 1 (by decide) (by decide) (by decide)
    have n2 : ¬ pgA M (mTop S t) (mPr S (mTop S t)) = 2 := nn 2 (by decide) (by decide) (by decide)
    have n3 : ¬ pgA M (mTop S t) (mPr S (mTop S t)) = 3 := nn 3 (by decide) (by decide) (by decide)
    have n4 : ¬ pgA M (mTop S t) (mPr S (mTop S t)) = 4 := nn 4 (by decide) (by decide) (by decide)
    have n5 : ¬ pgA M (mTop S t) (mPr S (mTop S t)) = 5 := nn 5 (by decide) (by decide) (by decide)
    have em : mPerf M S t = mIncP S (mTop S t) := by unfold mPerf; rw [if_neg n1, if_neg n2, if_neg n3, if_neg n4, if_neg n5]
    rw [em, if_neg n1, if_neg n2, if_neg n3, if_neg n4, if_neg n5]
    exact ⟨pre0 _ ⟨fun z => absurd z n1, fun _ => ⟨fun z => absurd z n2, fun _ => ⟨fun z => absurd z n3, fun _ => ⟨fun z => absurd z n4, fun _ => ⟨fun z => absurd z n5, fun _ => ⟨i24, i24, trivial⟩⟩⟩⟩⟩⟩, R3.row (hE.incP hT) rfl⟩
