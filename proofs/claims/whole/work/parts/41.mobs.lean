theorem nsub {a b : Nat} (h : b ≤ a) : nI a - nI b = nI (a - b) := (Int32.ofNat_sub a b h).symm
theorem nsub_neg {a b : Nat} (h : a < b) (hb : b < 1000) : nI a - nI b < 0 := by
  rw [Int32.lt_iff_toInt_lt, Int32.toInt_sub, nI_toInt (by omega), nI_toInt (by omega), Int.bmod_def, show (0 : Int32).toInt = 0 from rfl]
  split <;> omega
theorem skn {S : Ms} {t c : Nat} {l : List Nat} (h : mSk S t = c :: l) : ¬ mSk S t = [] := by rw [h]; simp
theorem wpU {M : cs_Mem} {f : Nat} (hW : WP M) (hf : f < 11) : pgU M f ≤ pgL M f ∧ pgU M f ≤ 3 ∧ pgL M f ≤ pgU M f + 5 := by
  obtain ⟨⟨L, U, h1, h2, h3, h4, h5, h6⟩, -⟩ := hW.2.2.2 f hf
  have h8 : L ≤ 8 := by split at h6 <;> omega
  have e1 : pgL M f = L := by unfold pgL; rw [h1]; exact nI_clamp (by omega)
  have e2 : pgU M f = U := by unfold pgU; rw [h2]; exact nI_clamp (by omega)
  rw [e1, e2]
  refine ⟨h3, h4, ?_⟩
  split at h5 <;> omega
theorem wpN {M : cs_Mem} (hW : WP M) : M 1 6 = nI (pgN M) ∧ pgN M ≤ 8 := by
  obtain ⟨n, h1, h2⟩ := hW.1
  have : pgN M = n := by unfold pgN; rw [h2]; exact nI_clamp (by omega)
  rw [this]
  exact ⟨h2, h1⟩
theorem sk_n {M : cs_Mem} {S : Ms} {t c : Nat} {l : List Nat} (hI : InvS M S) (ht : t < 3) (h : mSk S t = c :: l) : c < 8 ∧ c < pgN M ∧ mTop S t = c := ⟨sk_lt hI ht c (by rw [h]; simp), ((hI.2.1 t ht).2 c (by rw [h]; simp)).2, by unfold mTop; rw [h]; rfl⟩
theorem m_usesT {M : cs_Mem} {S : Ms} {t : Nat} (hW : WP M) (hP : PRel M) (hI : InvS M S) (hE : EncB S M) (ht : t < 3) : f_Mo_uses M 62 (M 80 (9 * t + (mSk S t).length)) = nI (pgU M (mTop S t)) ∧ pre_Mo_uses M 62 (M 80 (9 * t + (mSk S t).length)) := by
  rw [m_f80 hE ht]
  rcases top_cases (S := S) (t := t) with ⟨a1, a2⟩ | ⟨c, l, a1, a2⟩
  · rw [if_pos a1, a2, (hP.2.2.2.2.1 t ht).2]
    exact ⟨by unfold f_Mo_uses; rw [if_pos m1lt0]; rfl, fun _ => trivial, fun q => absurd m1lt0 q⟩
  · have hc := sk_n hI ht a1
    rw [if_neg (skn a1), a2]
    exact m_uses hP hW hc.2.1 hc.1
theorem m_parts {M : cs_Mem} {S : Ms} {t : Nat} (hW : WP M) (hP : PRel M) (hI : InvS M S) (hE : EncB S M) (ht : t < 3) : f_Mo_parts M 62 (nI t) (M 80 (9 * t + (mSk S t).length)) = nI (pgL M (mTop S t)) ∧ pre_Mo_parts M 62 (nI t) (M 80 (9 * t + (mSk S t).length)) := by
  have hu := m_usesT hW hP hI hE ht
  unfold f_Mo_parts pre_Mo_parts
  simp only [cs_bd_eq]
  rw [hu.1]
  rw [m_f80 hE ht] at hu ⊢
  rcases top_cases (S := S) (t := t) with ⟨a1, a2⟩ | ⟨c, l, a1, a2⟩
  · rw [if_pos a1] at hu ⊢
    rw [if_neg (show ¬ (0 : Int32) ≤ -1 by decide), nI_clamp (by omega), a2]
    exact ⟨(hP.2.2.2.2.1 t ht).1, fun q => absurd q (by decide), fun _ => ⟨vp_in_nI (N := 3) ht (by omega), trivial⟩⟩
  · have hc := sk_n hI ht a1
    have hU := wpU hW (f := c) (by omega)
    rw [if_neg (skn a1)] at hu ⊢
    rw [a2] at hu ⊢
    rw [if_pos (npos' (by omega)), nI_clamp (by omega), (hP.2.1 c hc.1).2.2.2.2.2.1, nI_add]
    exact ⟨by rw [Nat.add_sub_cancel' hU.1], fun _ => ⟨hu.2, vp_in_nI (N := 8) hc.1 (by omega), trivial⟩, fun q => absurd (npos' (by omega)) q⟩
theorem ix9 {t n : Nat} (ht : t < 3) (h : n ≤ 8) : (nI (9 * t + n)).toNatClampNeg = 9 * t + n := nI_clamp (by omega)
theorem in9 {t n : Nat} (ht : t < 3) (h : n ≤ 8) : vp_in (nI (9 * t + n)) 27 := vp_in_nI (by omega) (by omega)
def mAt (M : cs_Mem) (f p : Nat) : Int32 := if p < pgU M f then -1 else if p < pgL M f then nI (5 * f + (p - pgU M f)) else -1
theorem m_act {M : cs_Mem} {S : Ms} {t p : Nat} (hW : WP M) (hP : PRel M) (hI : InvS M S) (hE : EncB S M) (ht : t < 3) (hp : p < 50) : f_Mo_actionAt M 62 (nI t) (nI p) = mAt M (mTop S t) p ∧ pre_Mo_actionAt M 62 (nI t) (nI p) := by
  have hl := sk_len hI ht
  have hu := m_usesT hW hP hI hE ht
  have hq := m_parts hW hP hI hE ht
  have hU := wpU hW (top_lt hI ht)
  have hL := wpL hW (top_lt hI ht)
  unfold f_Mo_actionAt pre_Mo_actionAt f_Mo_actionAt_J35 mAt
  simp only [cs_bd_eq]
  rw [m_top hE ht, ix9 ht hl, hu.1, hq.1]
  by_cases h : p < pgU M (mTop S t)
  · have hn := nsub_neg h (by omega)
    rw [if_pos hn, if_pos h]
    exact ⟨rfl, mp_top ht, in9 ht hl, hu.2, fun _ => trivial, fun q => absurd hn q⟩
  · rw [nsub (Nat.not_lt.mp h), if_neg (npos (by omega)), if_neg h]
    refine ⟨?_, mp_top ht, in9 ht hl, hu.2, fun _ => trivial, fun _ => ⟨hq.2, trivial⟩⟩
    by_cases h2 : p < pgL M (mTop S t)
    · rw [if_pos ((nlt (by omega) (by omega)).mpr h2), if_pos h2, m_f80 hE ht]
      rcases top_cases (S := S) (t := t) with ⟨a1, a2⟩ | ⟨c, l, a1, a2⟩
      · rw [if_pos a1, if_neg (show ¬ (0 : Int32) ≤ -1 by decide), a2, show (40 : Int32) = nI 40 from rfl, show (5 : Int32) = nI 5 from rfl, nI_mul, nI_add, nI_add]
        exact congrArg nI (by omega)
      · have hc := sk_n hI ht a1
        rw [if_neg (skn a1), a2, if_pos (npos' (by omega)), show (5 : Int32) = nI 5 from rfl, nI_mul, nI_add]
    · rw [if_neg (fun q => h2 ((nlt (by omega) (by omega)).mp q)), if_neg h2]
def vI (M : cs_Mem) (o : Option Nat) : Int32 := match o with
  | some x => if x < pgN M then nI x else nI (100 + x)
  | none => -1
/-- what stands in the reference's rows at a part that is an action -/
theorem m_rows {M : cs_Mem} {f p : Nat} (hP : PRel M) (hf : f < 11) (h1 : pgU M f ≤ p) (h2 : p < pgL M f) : M 72 (5 * f + (p - pgU M f)) = pgA M f p ∧ M 73 (5 * f + (p - pgU M f)) = pgX M f p ∧ (f < 8 → M 74 (5 * f + (p - pgU M f)) = pgY M f p) := by
  have h := hP.2.2.2.2.2 f hf (p - pgU M f) (by omega)
  rw [Nat.add_sub_cancel' h1] at h
  exact ⟨h.1.symm, h.2.1.symm, fun q => (h.2.2 q).symm⟩
theorem m_used {M : cs_Mem} {S : Ms} {t : Nat} (hW : WP M) (hP : PRel M) (hI : InvS M S) (hE : EncB S M) (ht : t < 3) : f_Mo_usedNow M 62 (nI t) = vI M (us M (mTop S t) (mPr S (mTop S t))) ∧ pre_Mo_usedNow M 62 (nI t) := by
  have hl := sk_len hI ht
  have hT := top_lt hI ht
  have hq := m_parts hW hP hI hE ht
  have hU := wpU hW hT
  have hL := wpL hW hT
  have hpr := pr_le hW hI hT
  have hN := wpN hW
  have hN2 : M 62 0 = nI (pgN M) := by rw [hP.1]; exact hN.1
  have ha := m_act hW hP hI hE ht (p := mPr S (mTop S t)) (by omega)
  unfold f_Mo_usedNow pre_Mo_usedNow
  simp only [cs_bd_eq]
  rw [m_top hE ht, ix9 ht hl, m_f81 hE ht, hq.1, ha.1, hN2]
  generalize hp : mPr S (mTop S t) = p at *
  have g1 : pre_Mo_top M 62 (nI t) := mp_top ht
  have g2 : vp_in (nI (9 * t + (mSk S t).length)) (cs_ln M 80) := in9 ht hl
  have g3 : vp_in (nI (9 * t + (mSk S t).length)) (cs_ln M 81) := in9 ht hl
  by_cases h2 : p < pgL M (mTop S t)
  · have h2' : nI p < nI (pgL M (mTop S t)) := (nlt (by omega) (by omega)).mpr h2
    rw [if_pos h2']
    obtain ⟨a, e, h6, w0, w2, w34, wU, w8⟩ := wpA hW hT h2
    unfold us
    rw [if_pos h2]
    by_cases h : p < pgU M (mTop S t)
    · have em : mAt M (mTop S t) p = -1 := by unfold mAt; rw [if_pos h]
      rw [em, if_neg (show ¬ (0 : Int32) ≤ -1 by decide)]
      have a0 := wU h
      subst a0
      rw [if_pos (show pgA M (mTop S t) p = 0 from e)]
      rcases top_cases (S := S) (t := t) with ⟨a1, a2⟩ | ⟨c, l, a1, a2⟩
      · rw [a2, (hP.2.2.2.2.1 t ht).2] at h
        omega
      · have hc := sk_n hI ht a1
        rw [a2] at h ⊢
        have hx := m_uat hP hc.2.1 hc.1 h (by omega)
        have e80 : M 80 (9 * t + (mSk S t).length) = nI c := by rw [m_f80 hE ht, if_neg (skn a1), a2]
        obtain ⟨x, x1, x2⟩ := ((hP.2.2.2.1 c hc.2.1).2.1 p h).2
        rw [e80] at hq ⊢
        rw [hx.1, x2, nI_clamp (by omega)]
        refine ⟨?_, g1, g2, g1, g3, hq.2, fun _ => ⟨ha.2, fun q => absurd q (by decide), fun _ => ⟨hx.2, trivial⟩⟩, fun q => absurd (by rw [a2] at h2'; exact h2') q⟩
        show nI x = if x < pgN M then nI x else nI (100 + x)
        rw [if_pos (by omega)]
    · have hge := Nat.not_lt.mp h
      have em : mAt M (mTop S t) p = nI (5 * mTop S t + (p - pgU M (mTop S t))) := by unfold mAt; rw [if_neg h, if_pos h2]
      have hr := m_rows hP hT hge h2
      have i0 : 0 ≤ nI (5 * mTop S t + (p - pgU M (mTop S t))) := npos' (by omega)
      have i1 : vp_in (nI (5 * mTop S t + (p - pgU M (mTop S t)))) (cs_ln M 72) := vp_in_nI (N := 55) (by omega) (by omega)
      have i2 : vp_in (nI (5 * mTop S t + (p - pgU M (mTop S t)))) (cs_ln M 73) := vp_in_nI (N := 55) (by omega) (by omega)
      have i3 : vp_in (nI (5 * mTop S t + (p - pgU M (mTop S t)))) (cs_ln M 74) := vp_in_nI (N := 55) (by omega) (by omega)
      rw [em, nI_clamp (by omega), if_pos i0, hr.1, hr.2.1]
      have fin : ∀ (F : Int32) (P : Prop), (F = vI M (if pgA M (mTop S t) p = 0 then some (pgX M (mTop S t) p).toNatClampNeg else if pgA M (mTop S t) p = 2 then (if pgX M (mTop S t) p = 1 ∧ ¬ M 3 (pgY M (mTop S t) p).toNatClampNeg = 0 then none else some (pgY M (mTop S t) p).toNatClampNeg) else none) ∧ P) → F = vI M (if pgA M (mTop S t) p = 0 then some (pgX M (mTop S t) p).toNatClampNeg else if pgA M (mTop S t) p = 2 then (if pgX M (mTop S t) p = 1 ∧ ¬ M 3 (pgY M (mTop S t) p).toNatClampNeg = 0 then none else some (pgY M (mTop S t) p).toNatClampNeg) else none) ∧ (pre_Mo_top M 62 (nI t) ∧ vp_in (nI (9 * t + (mSk S t).length)) (cs_ln M 80) ∧ pre_Mo_top M 62 (nI t) ∧ vp_in (nI (9 * t + (mSk S t).length)) (cs_ln M 81) ∧ pre_Mo_parts M 62 (nI t) (M 80 (9 * t + (mSk S t).length)) ∧ (nI p < nI (pgL M (mTop S t)) → pre_Mo_actionAt M 62 (nI t) (nI p) ∧ (0 ≤ nI (5 * mTop S t + (p - pgU M (mTop S t))) → P) ∧ (¬ 0 ≤ nI (5 * mTop S t + (p - pgU M (mTop S t))) → pre_Mo_useAt M 62 (M 80 (9 * t + (mSk S t).length)) (nI p) ∧ True)) ∧ (¬ nI p < nI (pgL M (mTop S t)) → True)) :=
        fun F P hFP => ⟨hFP.1, g1, g2, g1, g3, hq.2, fun _ => ⟨ha.2, fun _ => hFP.2, fun q => absurd i0 q⟩, fun _ => trivial⟩
      refine fin _ _ ?_
      by_cases q0 : pgA M (mTop S t) p = 0
      · have a0 : a = 0 := (nI0 (by omega)).mp (by rw [← e]; exact q0)
        obtain ⟨x, x1, x2⟩ := w0 a0
        rw [if_pos q0, if_pos q0, x2, nI_clamp (by omega)]
        have q2 : ¬ pgA M (mTop S t) p = 2 := by rw [q0]; decide
        rw [if_neg q2]
        refine ⟨?_, i1, fun _ => ⟨i2, fun _ => ⟨i1, fun w => absurd w q2, fun _ => trivial⟩, fun _ => trivial⟩, fun w => absurd q0 w⟩
        show _ = if x < pgN M then nI x else nI (100 + x)
        by_cases hx : x < pgN M
        · rw [if_pos ((nlt (by omega) (by omega)).mpr hx), if_pos hx]
        · rw [if_neg (fun w => hx ((nlt (by omega) (by omega)).mp w)), if_neg hx, show (100 : Int32) = nI 100 from rfl, nI_add]
      · rw [if_neg q0, if_neg q0]
        by_cases q2 : pgA M (mTop S t) p = 2
        · have a2 : a = 2 := (neq (b := 2) (by omega) (by omega)).mp (by rw [← e]; exact q2)
          obtain ⟨hX, y, y1, y2⟩ := w2 a2
          have h8 : mTop S t < 8 := by
            by_cases w : mTop S t < 8
            · exact w
            · have := w8 (by omega)
              omega
          rw [if_pos q2, if_pos q2, hr.2.2 h8, y2, nI_clamp (by omega)]
          have h69 : M 69 y = M 3 y := (hP.2.1 y y1).2.1
          have i4 : vp_in (nI y) (cs_ln M 69) := vp_in_nI (N := 8) (by omega) (by omega)
          refine ⟨?_, i1, fun w => absurd w q0, fun _ => ⟨i1, fun _ => ⟨i3, fun _ => ⟨i1, fun _ => ⟨i2, fun _ => ⟨i4, trivial⟩, fun _ => trivial⟩, fun w => absurd q2 w⟩, fun _ => trivial⟩, fun w => absurd q2 w⟩⟩
          rw [if_pos q2, h69]
          by_cases hy : y < pgN M
          · rw [if_pos ((nlt (by omega) (by omega)).mpr hy)]
            by_cases q3 : pgX M (mTop S t) p = 1
            · rw [if_pos q3]
              by_cases q4 : M 3 y = 0
              · rw [if_pos q4, if_neg (fun w => w.2 q4)]
                show _ = if y < pgN M then nI y else nI (100 + y)
                rw [if_pos hy]
              · rw [if_neg q4, if_pos ⟨q3, q4⟩]
                rfl
            · rw [if_neg q3, if_neg (fun w => q3 w.1)]
              show _ = if y < pgN M then nI y else nI (100 + y)
              rw [if_pos hy]
          · have q4 := (hP.2.2.1 y (by omega) y1).1
            rw [if_neg (fun w => hy ((nlt (by omega) (by omega)).mp w)), if_neg (fun w => w.2 q4), show (100 : Int32) = nI 100 from rfl, nI_add]
            show _ = if y < pgN M then nI y else nI (100 + y)
            rw [if_neg hy]
        · rw [if_neg q2, if_neg q2]
          have hm : (-1 : Int32) < nI (pgN M) := by
            rw [Int32.lt_iff_toInt_lt, nI_toInt (by omega), show (-1 : Int32).toInt = -1 from by decide]
            omega
          refine ⟨?_, i1, fun w => absurd w q0, fun _ => ⟨i1, fun w => absurd w q2, fun _ => ⟨fun _ => ⟨i1, fun w => absurd w q2, fun _ => trivial⟩, fun _ => trivial⟩⟩⟩
          rw [if_pos hm, if_neg q2]
          rfl
  · have h2' : ¬ nI p < nI (pgL M (mTop S t)) := fun w => h2 ((nlt (by omega) (by omega)).mp w)
    rw [if_neg h2']
    unfold us
    rw [if_neg h2]
    exact ⟨rfl, g1, g2, g1, g3, hq.2, fun w => absurd w h2', fun _ => trivial⟩
