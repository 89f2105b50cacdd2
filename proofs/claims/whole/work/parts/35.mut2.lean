theorem c_drop {M : cs_Mem} {S : Ms} {j k t v : Nat} (hj : j = 52 ∨ j = 56) (hE : EncC S k (M (j + 1))) (ht : t < 3) (hT : mTop S t < 11) (hs : ∀ c, c ∈ mSk S t → c < 8) :
    pre_Ma_dropTop M j (nI t) (nI v) ∧ R3 S (mPop S t v) k M (f_Ma_dropTop M j (nI t) (nI v)) j := by
  have et := c_top hE ht
  have e8 : ((8 : Int32) ≤ nI (mTop S t)) ↔ 8 ≤ mTop S t := nle (a := 8) (by decide) (by omega)
  have inn : ∀ (N : cs_Mem) (a b : Nat), a + b < 43 → vp_in (nI a + nI b) (cs_ln N (j + 1)) := fun N a b h => by rw [hcl hj]; exact inK a b 43 h (by omega)
  cases h : mSk S t with
  | nil =>
    have hT8 : mTop S t = 8 + t := by unfold mTop; rw [h]; rfl
    have e0 : mPop S t v = S := by unfold mPop; rw [h]
    constructor
    · unfold pre_Ma_dropTop
      simp only [cs_bd_prop]
      rw [et]
      exact ⟨p_top hj ht, fun _ => trivial, fun q => absurd (e8.mpr (by omega)) q⟩
    · unfold f_Ma_dropTop
      simp only [cs_bd_eq]
      rw [et, if_pos (e8.mpr (by omega)), e0]
      exact R3.refl hE
  | cons d l =>
    have hd : d < 8 := hs d (by rw [h]; simp)
    have hTd : mTop S t = d := by unfold mTop; rw [h]; rfl
    constructor
    · unfold pre_Ma_dropTop
      simp only [cs_bd_prop]
      rw [et, hTd]
      exact ⟨p_top hj ht, fun _ => trivial, fun _ => ⟨inn _ 0 d (by omega), inn _ 16 d (by omega), inn _ 35 t (by omega), trivial⟩⟩
    · unfold f_Ma_dropTop
      simp only [cs_bd_eq]
      rw [et, if_neg (fun q => absurd (e8.mp q) (by omega)), hTd, ix0 (by omega), ix16 (by omega), ix35 (by omega)]
      have key := hE.pop (v := v) ht hd h
      have e1 : cs_up (cs_up M (j + 1) (upd (M (j + 1)) d (nI v))) (j + 1) (upd (cs_up M (j + 1) (upd (M (j + 1)) d (nI v)) (j + 1)) (35 + t) (cs_up M (j + 1) (upd (M (j + 1)) d (nI v)) (j + 1) (16 + d))) = cs_up M (j + 1) (upd (upd (M (j + 1)) d (nI v)) (35 + t) (M (j + 1) (16 + d))) := by
        rw [cs_up_self, up_n (by omega)]
        funext i
        by_cases q : i = j + 1
        · rw [q, cs_up_self, cs_up_self]
        · rw [cs_up_ne _ _ q, cs_up_ne _ _ q, cs_up_ne _ _ q]
      rw [e1]
      refine R3.row key ?_
      unfold mPop
      rw [h]
      rfl
theorem c_begin {M : cs_Mem} {S : Ms} {j k t d : Nat} (hj : j = 52 ∨ j = 56) (hE : EncC S k (M (j + 1))) (ht : t < 3) (hT : mTop S t < 11) (hd : d < 8) (hs : ∀ u, u < 3 → d ∉ mSk S u) :
    pre_Ma_begin M j (nI t) (nI d) ∧ R3 S (mPush S t d) k M (f_Ma_begin M j (nI t) (nI d)) j := by
  have inn : ∀ (N : cs_Mem) (a b : Nat), a + b < 43 → vp_in (nI a + nI b) (cs_ln N (j + 1)) := fun N a b h => by rw [hcl hj]; exact inK a b 43 h (by omega)
  have et : f_Ma_topFrame (cs_up M (j + 1) (upd (M (j + 1)) d (4 + nI t))) j (nI t) = nI (mTop S t) := by
    unfold f_Ma_topFrame
    rw [cs_up_self, ix35 (by omega), up_n (by omega)]
    exact hE.2.2.2.1 t ht
  constructor
  · unfold pre_Ma_begin
    simp only [cs_bd_prop]
    exact ⟨inn _ 0 d (by omega), p_top hj ht, inn _ 16 d (by omega), inn _ 24 d (by omega), inn _ 35 t (by omega), trivial⟩
  · unfold f_Ma_begin
    simp only [cs_bd_eq]
    rw [ix0 (by omega), ix16 (by omega), ix24 (by omega), ix35 (by omega), et]
    have key := hE.push ht hd hs
    have e4 : (4 : Int32) + nI t = nI (4 + t) := nI_add 4 t
    rw [e4]
    have e1 : ∀ (r1 : Nat → Int32) (g2 g3 g4 : (Nat → Int32) → Nat → Int32), (let N1 := cs_up M (j + 1) r1; let N2 := cs_up N1 (j + 1) (g2 (N1 (j + 1))); let N3 := cs_up N2 (j + 1) (g3 (N2 (j + 1))); cs_up N3 (j + 1) (g4 (N3 (j + 1)))) = cs_up M (j + 1) (g4 (g3 (g2 r1))) := by
      intro r1 g2 g3 g4
      simp only [cs_up_self]
      funext i
      by_cases q : i = j + 1
      · rw [q, cs_up_self, cs_up_self]
      · simp only [cs_up_ne _ _ q]
    have e2 := e1 (upd (M (j + 1)) d (nI (4 + t))) (fun r => upd r (16 + d) (nI (mTop S t))) (fun r => upd r (24 + d) 0) (fun r => upd r (35 + t) (nI d))
    simp only at e2
    rw [e2]
    exact R3.row key rfl
theorem c_made {M : cs_Mem} {S : Ms} {j k t : Nat} (hj : j = 52 ∨ j = 56) (hW : WP M) (hE : EncC S k (M (j + 1))) (ht : t < 3) (hT : mTop S t < 11) (hP : mPr S (mTop S t) ≤ pgL M (mTop S t)) :
    pre_Ma_makeUse M j (nI t) ∧ R3 S (mMade M S t) k M (f_Ma_makeUse M j (nI t)) j := by
  have hL := wpL hW hT
  have inn : ∀ (N : cs_Mem) (a b : Nat), a + b < 43 → vp_in (nI a + nI b) (cs_ln N (j + 1)) := fun N a b h => by rw [hcl hj]; exact inK a b 43 h (by omega)
  have et := c_top hE ht
  have ep : M (j + 1) (24 + nI (mTop S t)).toNatClampNeg = nI (mPr S (mTop S t)) := by rw [ix24 (by omega)]; exact hE.2.2.1 _ hT
  have ea := c_act (p := mPr S (mTop S t)) hW hT (by omega)
  have pa := p_act (p := mPr S (mTop S t)) hW hT (by omega)
  have key : (if pgL M (mTop S t) ≤ mPr S (mTop S t) then (-1 : Int32) else pgA M (mTop S t) (mPr S (mTop S t))) = 2 → mPr S (mTop S t) < pgL M (mTop S t) ∧ pgA M (mTop S t) (mPr S (mTop S t)) = 2 := by
    intro h
    by_cases q : pgL M (mTop S t) ≤ mPr S (mTop S t)
    · rw [if_pos q] at h; exact absurd h (by decide)
    · rw [if_neg q] at h; exact ⟨by omega, h⟩
  have cpy : mPr S (mTop S t) < pgL M (mTop S t) ∧ pgA M (mTop S t) (mPr S (mTop S t)) = 2 → mTop S t < 8 ∧ (pgX M (mTop S t) (mPr S (mTop S t)) = 0 ∨ pgX M (mTop S t) (mPr S (mTop S t)) = 1) ∧ ∃ y, y < 8 ∧ pgY M (mTop S t) (mPr S (mTop S t)) = nI y := by
    intro h
    obtain ⟨a, e, h6, -, h2, -, -, h8⟩ := wpA hW hT h.1
    have ha : a = 2 := (neq (by omega) (by decide)).mp (e.symm.trans h.2)
    refine ⟨?_, h2 ha⟩
    rcases Nat.lt_or_ge (mTop S t) 8 with q | q
    · exact q
    · have := h8 q; omega
  have es : ∀ y, y < 8 → f_Ma_staticOf M j (nI y) (pgX M (mTop S t) (mPr S (mTop S t))) = if pgX M (mTop S t) (mPr S (mTop S t)) = 0 then mS0 S y else M 4 y := by
    intro y hy
    unfold f_Ma_staticOf f_Pr_secondStatic
    simp only [cs_bd_eq]
    rw [ix8 (by omega), nI_clamp (by omega), hE.2.1 y hy]
  constructor
  · unfold pre_Ma_makeUse
    simp only [cs_bd_prop]
    rw [et, ep]
    unfold f_Pr_script pre_Pr_script
    rw [nI_clamp (by omega), ea]
    refine ⟨p_top hj ht, inn _ 24 _ (by omega), ⟨vp_in_nI hT (by omega), trivial⟩, pa, fun h => ?_, fun _ => ⟨inn _ 24 _ (by omega), inn _ 24 _ (by omega), trivial⟩⟩
    obtain ⟨h8, hx, y, hy, ey⟩ := cpy (key h)
    have hlt := (key h).1
    unfold f_Sc_secondOperandAt f_Sc_firstOperandAt pre_Sc_secondOperandAt pre_Sc_firstOperandAt pre_Ma_staticOf pre_Pr_secondStatic
    rw [nI_clamp (by omega), (sln hT).2.1, (sln hT).2.2]
    have h5 := hL.2.1
    refine ⟨⟨vp_in_nI (by omega) (by split <;> omega), trivial⟩, ⟨vp_in_nI (by omega) (by split <;> omega), trivial⟩, ?_, inn _ 8 _ (by omega), inn _ 24 _ (by omega), inn _ 24 _ (by omega), trivial⟩
    rw [show M (8 + 4 * mTop S t + 3) (mPr S (mTop S t)) = nI y from ey]
    exact ⟨fun _ => ⟨inn _ 8 y (by omega), trivial⟩, fun _ => ⟨⟨(show vp_in (nI y) 8 from vp_in_nI hy (by decide)), trivial⟩, trivial⟩⟩
  · unfold f_Ma_makeUse mMade
    simp only [cs_bd_eq]
    rw [et, ep]
    unfold f_Pr_script
    rw [nI_clamp (by omega), ea]
    by_cases h : mPr S (mTop S t) < pgL M (mTop S t) ∧ pgA M (mTop S t) (mPr S (mTop S t)) = 2
    · obtain ⟨h8, hx, y, hy, ey⟩ := cpy h
      rw [if_pos h, if_neg (show ¬ pgL M (mTop S t) ≤ mPr S (mTop S t) by omega), if_pos h.2]
      unfold f_Sc_secondOperandAt f_Sc_firstOperandAt
      rw [nI_clamp (by omega), show M (8 + 4 * mTop S t + 3) (mPr S (mTop S t)) = nI y from ey, show M (8 + 4 * mTop S t + 2) (mPr S (mTop S t)) = pgX M (mTop S t) (mPr S (mTop S t)) from rfl, es y hy, ey, nI_clamp (show y < 2 ^ 31 by omega), ix8 (by omega), ix24 (by omega)]
      have w : R3 S (mSet0 S (mTop S t) (if pgX M (mTop S t) (mPr S (mTop S t)) = 0 then mS0 S y else M 4 y)) k M (cs_up M (j + 1) (upd (M (j + 1)) (8 + mTop S t) (if pgX M (mTop S t) (mPr S (mTop S t)) = 0 then mS0 S y else M 4 y))) j := R3.row (hE.set0 h8) rfl
      refine w.trans ?_
      rw [w.1.2.2.1 _ hT]
      exact R3.row (w.1.incP hT) rfl
    · rw [if_neg h, if_neg (fun q => h (key q)), ix24 (by omega)]
      exact R3.row (hE.incP hT) rfl
