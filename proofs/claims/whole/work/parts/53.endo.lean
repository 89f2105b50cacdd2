/-! the class's endOrder -/
theorem endo_S (n : Nat) (M : cs_Mem) (y1 y2 y3 : Int32) : f_Ex_endOrder_L16 (n + 1) M y1 y2 y3 = if 3 ≤ y3 then (if y2 = 0 then f_Ex_find M y1 else f_Ex_find (cs_up M 55 (upd (M 55) 6 ((M 55 6) + 1))) y1) else if y2 = 0 then (if f_Ma_lastResultOf M 56 y3 = 50 then f_Ex_endOrder_L16 n M ((100 * y1) + f_Ma_lastResultOf M 56 y3) 1 (y3 + 1) else f_Ex_endOrder_L16 n M ((100 * y1) + f_Ma_lastResultOf M 56 y3) 0 (y3 + 1)) else f_Ex_endOrder_L16 n M ((100 * y1) + f_Ma_lastResultOf M 56 y3) 1 (y3 + 1) := by
  rw [f_Ex_endOrder_L16]
  simp only [cs_bd_eq]
theorem pendo_S (n : Nat) (M : cs_Mem) (y1 y2 y3 : Int32) : pre_Ex_endOrder_L16 (n + 1) M y1 y2 y3 ↔ (3 ≤ y3 → (y2 = 0 → pre_Ex_find M y1 ∧ True) ∧ (¬ y2 = 0 → pre_Ex_find (cs_up M 55 (upd (M 55) 6 ((M 55 6) + 1))) y1 ∧ True)) ∧ (¬ 3 ≤ y3 → pre_Ma_lastResultOf M 56 y3 ∧ (y2 = 0 → (f_Ma_lastResultOf M 56 y3 = 50 → pre_Ex_endOrder_L16 n M ((100 * y1) + f_Ma_lastResultOf M 56 y3) 1 (y3 + 1)) ∧ (¬ f_Ma_lastResultOf M 56 y3 = 50 → pre_Ex_endOrder_L16 n M ((100 * y1) + f_Ma_lastResultOf M 56 y3) 0 (y3 + 1))) ∧ (¬ y2 = 0 → pre_Ex_endOrder_L16 n M ((100 * y1) + f_Ma_lastResultOf M 56 y3) 1 (y3 + 1))) := by
  rw [pre_Ex_endOrder_L16]
  simp only [cs_bd_eq]
def sb (b v : Nat) : Nat := if b = 0 ∧ ¬ v = 50 then 0 else 1
theorem endo_t {M : cs_Mem} {S : Ms} {k t a b n : Nat} (hW : WP M) (hI : InvS M S) (hE : EncC S k (M 57)) (ht : t < 3) (hb : b ≤ 1) : f_Ex_endOrder_L16 (n + 1) M (nI a) (nI b) (nI t) = f_Ex_endOrder_L16 n M (nI (100 * a + lrN M S t)) (nI (sb b (lrN M S t))) (nI (t + 1)) ∧ (pre_Ex_endOrder_L16 n M (nI (100 * a + lrN M S t)) (nI (sb b (lrN M S t))) (nI (t + 1)) → pre_Ex_endOrder_L16 (n + 1) M (nI a) (nI b) (nI t)) := by
  have hlr := lr_le hI ht
  have el : f_Ma_lastResultOf M 56 (nI t) = nI (lrN M S t) := by
    rw [c_last hW hI hE ht]
    unfold lrN
    split <;> rfl
  have pl : pre_Ma_lastResultOf M 56 (nI t) := p_last (Or.inr rfl) hI hE ht
  have c3 : ¬ 3 ≤ nI t := fun q => absurd ((nle (a := 3) (by omega) (by omega)).mp q) (by omega)
  have ea : (100 : Int32) * nI a + nI (lrN M S t) = nI (100 * a + lrN M S t) := by rw [show (100 : Int32) = nI 100 from rfl, nI_mul, nI_add]
  rw [endo_S, pendo_S, if_neg c3, el, ea, nI_1]
  by_cases b0 : b = 0
  · subst b0
    rw [if_pos (show nI 0 = 0 from rfl)]
    by_cases v : lrN M S t = 50
    · have v' : nI (lrN M S t) = 50 := by rw [v]; rfl
      have e : sb 0 (lrN M S t) = 1 := by unfold sb; rw [if_neg (fun q => q.2 v)]
      rw [if_pos v', e]
      exact ⟨rfl, fun h => ⟨fun q => absurd q c3, fun _ => ⟨pl, fun _ => ⟨fun _ => h, fun q => absurd v' q⟩, fun q => absurd rfl q⟩⟩⟩
    · have v' : ¬ nI (lrN M S t) = 50 := fun q => v ((neq (b := 50) (by omega) (by omega)).mp q)
      have e : sb 0 (lrN M S t) = 0 := by unfold sb; rw [if_pos ⟨rfl, v⟩]
      rw [if_neg v', e]
      exact ⟨rfl, fun h => ⟨fun q => absurd q c3, fun _ => ⟨pl, fun _ => ⟨fun q => absurd q v', fun _ => h⟩, fun q => absurd rfl q⟩⟩⟩
  · have : b = 1 := by omega
    subst this
    have n1 : ¬ nI 1 = 0 := by decide
    have e : sb 1 (lrN M S t) = 1 := by unfold sb; rw [if_neg (fun q => by omega)]
    rw [if_neg n1, e]
    exact ⟨rfl, fun h => ⟨fun q => absurd q c3, fun _ => ⟨pl, fun q => absurd q n1, fun _ => h⟩⟩⟩
theorem sb_le (b v : Nat) : sb b v ≤ 1 := by unfold sb; split <;> omega
theorem sb_stk {Q : cs_Mem} {S : Ms} : sb (sb (sb 0 (lrN Q S 0)) (lrN Q S 1)) (lrN Q S 2) = stk Q S := by
  unfold sb stk
  by_cases h0 : lrN Q S 0 = 50 <;> by_cases h1 : lrN Q S 1 = 50 <;> by_cases h2 : lrN Q S 2 = 50 <;> simp [h0, h1, h2]
theorem PE.lr {M N : cs_Mem} (h : PE M N) {S : Ms} {t : Nat} (ht : t < 3) : lrN N S t = lrN M S t := by unfold lrN; rw [h.eend ht]
theorem PE.oc {M N : cs_Mem} (h : PE M N) {S : Ms} : ocN N S = ocN M S := by unfold ocN; rw [h.lr (by omega), h.lr (by omega), h.lr (by omega)]
theorem PE.sk {M N : cs_Mem} (h : PE M N) {S : Ms} : stk N S = stk M S := by unfold stk; rw [h.lr (by omega), h.lr (by omega), h.lr (by omega)]
/-- an order is ended on the class's side -/
def ER (M N : cs_Mem) (l : List Nat) (o s : Nat) : Prop := FS N l ∧ N 55 5 = nI o ∧ N 55 6 = nI s ∧ (∀ q, q ≠ 4 → q ≠ 5 → q ≠ 6 → N 55 q = M 55 q) ∧ (∀ i, i ≠ 55 → i ≠ 61 → i ≠ 1000 → N i = M i) ∧ cs_ln M 61 ≤ cs_ln N 61 ∧ (¬ cs_ln N 61 = cs_ln M 61 → cs_ln M 61 + 4 ≤ cs_ln N 61)
theorem c_endO {M : cs_Mem} {S : Ms} {k o s : Nat} {l : List Nat} (hW : WP M) (hI : InvS M S) (hE : EncC S k (M 57)) (h : FS M l) (hl : l.length ≤ 3000) (hs : l.Pairwise (· < ·)) (hm : ∀ y, y ∈ l → y < 1000000) (h5 : M 55 5 = nI o) (h6 : M 55 6 = nI s) : pre_Ex_endOrder M ∧ ER M (f_Ex_endOrder M) (insN l (ocN M S)) (o + 1) (s + stk M S) := by
  have pe : PE M (cs_up M 55 (upd (M 55) 5 (nI o + 1))) := fun i hi => cs_up_ne _ _ (by omega)
  have hW1 := pe.wp hW
  have hI1 := pe.inv hI
  have hE1 : EncC S k ((cs_up M 55 (upd (M 55) 5 (nI o + 1))) 57) := hE
  have hF1 : FS (cs_up M 55 (upd (M 55) 5 (nI o + 1))) l := ⟨h.1, by rw [cs_up_self, up_n (by omega)]; exact h.2.1, h.2.2⟩
  have hoc := oc_lt hI
  have e : f_Ex_endOrder M = f_Ex_endOrder_L16 5 (cs_up M 55 (upd (M 55) 5 (nI o + 1))) (nI 0) (nI 0) (nI 0) := by
    unfold f_Ex_endOrder
    simp only [cs_bd_eq]
    rw [h5]
    rfl
  have ep : pre_Ex_endOrder M ↔ pre_Ex_endOrder_L16 5 (cs_up M 55 (upd (M 55) 5 (nI o + 1))) (nI 0) (nI 0) (nI 0) := by
    unfold pre_Ex_endOrder
    simp only [cs_bd_eq]
    rw [h5]
    exact Iff.rfl
  have r0 := endo_t (n := 4) (a := 0) (b := 0) hW1 hI1 hE1 (t := 0) (by omega) (by omega)
  have r1 := endo_t (n := 3) (a := 100 * 0 + lrN (cs_up M 55 (upd (M 55) 5 (nI o + 1))) S 0) (b := sb 0 (lrN (cs_up M 55 (upd (M 55) 5 (nI o + 1))) S 0)) hW1 hI1 hE1 (t := 1) (by omega) (sb_le _ _)
  have r2 := endo_t (n := 2) (a := 100 * (100 * 0 + lrN (cs_up M 55 (upd (M 55) 5 (nI o + 1))) S 0) + lrN (cs_up M 55 (upd (M 55) 5 (nI o + 1))) S 1) (b := sb (sb 0 (lrN (cs_up M 55 (upd (M 55) 5 (nI o + 1))) S 0)) (lrN (cs_up M 55 (upd (M 55) 5 (nI o + 1))) S 1)) hW1 hI1 hE1 (t := 2) (by omega) (sb_le _ _)
  rw [sb_stk, pe.lr (by omega), pe.lr (by omega), pe.lr (by omega), pe.sk] at r2
  rw [pe.lr (by omega), pe.lr (by omega)] at r1
  rw [pe.lr (by omega)] at r0
  have r2 : f_Ex_endOrder_L16 3 (cs_up M 55 (upd (M 55) 5 (nI o + 1))) (nI (100 * (100 * 0 + lrN M S 0) + lrN M S 1)) (nI (sb (sb 0 (lrN M S 0)) (lrN M S 1))) (nI 2) = f_Ex_endOrder_L16 2 (cs_up M 55 (upd (M 55) 5 (nI o + 1))) (nI (ocN M S)) (nI (stk M S)) (nI 3) ∧ (pre_Ex_endOrder_L16 2 (cs_up M 55 (upd (M 55) 5 (nI o + 1))) (nI (ocN M S)) (nI (stk M S)) (nI 3) → pre_Ex_endOrder_L16 3 (cs_up M 55 (upd (M 55) 5 (nI o + 1))) (nI (100 * (100 * 0 + lrN M S 0) + lrN M S 1)) (nI (sb (sb 0 (lrN M S 0)) (lrN M S 1))) (nI 2)) := r2
  have ee : f_Ex_endOrder M = f_Ex_endOrder_L16 2 (cs_up M 55 (upd (M 55) 5 (nI o + 1))) (nI (ocN M S)) (nI (stk M S)) (nI 3) := e.trans (r0.1.trans (r1.1.trans r2.1))
  have pp : pre_Ex_endOrder_L16 2 (cs_up M 55 (upd (M 55) 5 (nI o + 1))) (nI (ocN M S)) (nI (stk M S)) (nI 3) → pre_Ex_endOrder M := fun q => ep.mpr (r0.2 (r1.2 (r2.2 q)))
  have c3 : (3 : Int32) ≤ nI 3 := by decide
  rw [ee]
  have fin : ∀ N, (∀ q, q ≠ 5 → q ≠ 6 → N 55 q = M 55 q) → (∀ i, i ≠ 55 → N i = M i) → N 55 5 = nI (o + 1) → N 55 6 = nI (s + stk M S) → pre_Ex_find N (nI (ocN M S)) ∧ ER M (f_Ex_find N (nI (ocN M S))) (insN l (ocN M S)) (o + 1) (s + stk M S) := by
    intro N n1 n2 n5 n6
    have lnN : cs_ln N 61 = cs_ln M 61 := ln_eq (n2 1000 (by omega))
    have hN : FS N l := ⟨by rw [n2 61 (by omega)]; exact h.1, by rw [n1 4 (by omega) (by omega)]; exact h.2.1, by rw [lnN]; exact h.2.2⟩
    have r := c_find (x := ocN M S) hN hl hoc hs hm
    obtain ⟨g1, g2, g3, g4, g5, g6, g7, g8⟩ := r.2
    refine ⟨r.1, ⟨g1, g2, g5, g6⟩, ?_, ?_, ?_, ?_, ?_, ?_⟩
    · rw [g3 5 (by omega)]; exact n5
    · rw [g3 6 (by omega)]; exact n6
    · intro q q4 q5 q6
      rw [g3 q q4, n1 q q5 q6]
    · intro i i1 i2 i3
      rw [g4 i i1 i2 i3, n2 i i1]
    · rw [← lnN]; exact g7
    · rw [← lnN]; exact g8
  rw [endo_S, if_pos c3]
  have hst : stk M S = 0 ∨ stk M S = 1 := by unfold stk; split <;> omega
  rcases hst with z | z
  · have z' : nI (stk M S) = 0 := by rw [z]; rfl
    have f := fin (cs_up M 55 (upd (M 55) 5 (nI o + 1))) (fun q q5 _ => by rw [cs_up_self, up_n q5]) (fun i hi => cs_up_ne _ _ hi) (by rw [cs_up_self, up_s, nI_1]) (by rw [cs_up_self, up_n (by omega), h6, z]; rfl)
    rw [if_pos z']
    exact ⟨pp ((pendo_S _ _ _ _ _).mpr ⟨fun _ => ⟨fun _ => ⟨f.1, trivial⟩, fun q => absurd z' q⟩, fun q => absurd c3 q⟩), f.2⟩
  · have z' : ¬ nI (stk M S) = 0 := by rw [z]; decide
    have f := fin (cs_up (cs_up M 55 (upd (M 55) 5 (nI o + 1))) 55 (upd ((cs_up M 55 (upd (M 55) 5 (nI o + 1))) 55) 6 (((cs_up M 55 (upd (M 55) 5 (nI o + 1))) 55 6) + 1))) (fun q q5 q6 => by rw [cs_up_self, up_n q6, cs_up_self, up_n q5]) (fun i hi => by rw [cs_up_ne _ _ hi, cs_up_ne _ _ hi]) (by rw [cs_up_self, up_n (by omega), cs_up_self, up_s, nI_1]) (by rw [cs_up_self, up_s, cs_up_self, up_n (by omega), h6, z, nI_1])
    rw [if_neg z']
    exact ⟨pp ((pendo_S _ _ _ _ _).mpr ⟨fun _ => ⟨fun q => absurd q z', fun _ => ⟨f.1, trivial⟩⟩, fun q => absurd c3 q⟩), f.2⟩
