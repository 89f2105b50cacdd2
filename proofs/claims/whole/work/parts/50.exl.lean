/-! the going through of all orders, abstractly -/
def lrN (Q : cs_Mem) (S : Ms) (t : Nat) : Nat := if mEnd Q S t = true then mFl S t else 50
def ocN (Q : cs_Mem) (S : Ms) : Nat := 100 * (100 * (100 * 0 + lrN Q S 0) + lrN Q S 1) + lrN Q S 2
def stk (Q : cs_Mem) (S : Ms) : Nat := if lrN Q S 0 = 50 ∨ lrN Q S 1 = 50 ∨ lrN Q S 2 = 50 then 1 else 0
def insN : List Nat → Nat → List Nat
  | [], x => [x]
  | y :: l, x => if y < x then y :: insN l x else if y = x then y :: l else x :: y :: l
def IsLo (l : List Nat) (x k : Nat) : Prop := k ≤ l.length ∧ (∀ i, i < k → l.getD i 0 < x) ∧ ∀ i, k ≤ i → i < l.length → x ≤ l.getD i 0
theorem ins_lo : ∀ (l : List Nat) (x k : Nat), l.Pairwise (· < ·) → IsLo l x k → insN l x = if k < l.length ∧ l.getD k 0 = x then l else l.take k ++ x :: l.drop k
  | [], x, k, _, h => by
    have : k = 0 := by have := h.1; simp at this; exact this
    subst this
    rfl
  | y :: l, x, k, hs, h => by
    cases k with
    | zero =>
      have h0 := h.2.2 0 (by omega) (by simp)
      have h0 : x ≤ y := h0
      unfold insN
      rw [if_neg (by omega)]
      by_cases q : y = x
      · rw [if_pos q, if_pos ⟨by simp, q⟩]
      · rw [if_neg q, if_neg (fun w => q w.2)]
        rfl
    | succ k =>
      have h0 := h.2.1 0 (by omega)
      have h0 : y < x := h0
      have r := ins_lo l x k (List.pairwise_cons.mp hs).2 ⟨by have := h.1; simp at this; omega, fun i hi => h.2.1 (i + 1) (by omega), fun i h1 h2 => h.2.2 (i + 1) (by omega) (by simp; omega)⟩
      unfold insN
      rw [if_pos h0, r]
      by_cases q : k < l.length ∧ l.getD k 0 = x
      · rw [if_pos q, if_pos ⟨by simp; exact q.1, q.2⟩]
      · rw [if_neg q, if_neg (fun w => q ⟨by have := w.1; simp at this; exact this, w.2⟩)]
        rfl
theorem ins_mem : ∀ (l : List Nat) (x y : Nat), y ∈ insN l x → y = x ∨ y ∈ l
  | [], x, y, h => by
    left
    simpa [insN] using h
  | z :: l, x, y, h => by
    unfold insN at h
    split at h
    · rcases List.mem_cons.mp h with q | q
      · right; rw [q]; simp
      · rcases ins_mem l x y q with w | w
        · exact Or.inl w
        · right; simp [w]
    · split at h
      · exact Or.inr h
      · rcases List.mem_cons.mp h with q | q
        · exact Or.inl q
        · exact Or.inr q
theorem ins_sorted : ∀ (l : List Nat) (x : Nat), l.Pairwise (· < ·) → (insN l x).Pairwise (· < ·)
  | [], x, _ => by simp [insN]
  | y :: l, x, hs => by
    have h1 := List.pairwise_cons.mp hs
    unfold insN
    split
    · rename_i q
      refine List.pairwise_cons.mpr ⟨fun z hz => ?_, ins_sorted l x h1.2⟩
      rcases ins_mem l x z hz with w | w
      · rw [w]; exact q
      · exact h1.1 z w
    · split
      · exact hs
      · rename_i q w
        refine List.pairwise_cons.mpr ⟨fun z hz => ?_, hs⟩
        rcases List.mem_cons.mp hz with v | v
        · omega
        · have := h1.1 z v
          omega
theorem ins_len : ∀ (l : List Nat) (x : Nat), (insN l x).length ≤ l.length + 1 ∧ l.length ≤ (insN l x).length
  | [], x => by simp [insN]
  | y :: l, x => by
    have := ins_len l x
    unfold insN
    split
    · simp; omega
    · split <;> simp
def nl (Q : cs_Mem) (S : Ms) (y : Nat) (l : List Nat) : List Nat := if y = 0 then insN l (ocN Q S) else l
def no (y o : Nat) : Nat := if y = 0 then o + 1 else o
def ns (Q : cs_Mem) (S : Ms) (y s : Nat) : Nat := if y = 0 then s + stk Q S else s
def exL (Q : cs_Mem) : Nat → List (Ms × Nat) → Ms → Nat → List Nat → Nat → Nat → Option (List Nat × Nat × Nat)
  | 0, _, _, _, _, _, _ => none
  | n + 1, P, S, y, l, o, s =>
    if mNx Q S y = 3 then
      if 3000 < no y o then none
      else match P with
        | [] => some (nl Q S y l, no y o, ns Q S y s)
        | q :: P' => exL Q n P' q.1 (q.2 + 1) (nl Q S y l) (no y o) (ns Q S y s)
    else exL Q n ((S, mNx Q S y) :: P) (mStep Q S (mNx Q S y)) 0 l o s
def Ch (Q : cs_Mem) : List (Ms × Nat) → Ms → Prop
  | [], S => S = msZ
  | q :: P, S => q.2 < 3 ∧ mAb Q q.1 q.2 = true ∧ S = mStep Q q.1 q.2 ∧ Ch Q P q.1
theorem Ch.sg {Q : cs_Mem} (hW : WP Q) : ∀ (P : List (Ms × Nat)) (S : Ms), Ch Q P S → Sg Q S P.length
  | [], S, h => by
    have h : S = msZ := h
    rw [h]
    exact sg0 hW
  | q :: P, S, h => by
    obtain ⟨h1, h2, h3, h4⟩ := h
    rw [h3]
    exact (Ch.sg hW P q.1 h4).step hW h1 h2
def Cfg (Q : cs_Mem) (P : List (Ms × Nat)) (S : Ms) (y : Nat) (l : List Nat) (o s T : Nat) : Prop :=
  Ch Q P S ∧ y ≤ 3 ∧ l.Pairwise (· < ·) ∧ (∀ x, x ∈ l → x < 1000000) ∧ l.length ≤ o ∧ o ≤ 3000 ∧ s ≤ o ∧ T + P.length ≤ 178 * o + (if y = 0 then 2 * P.length else 0)
theorem Cfg.T {Q : cs_Mem} {P : List (Ms × Nat)} {S : Ms} {y o s T : Nat} {l : List Nat} (hW : WP Q) (h : Cfg Q P S y l o s T) : P.length ≤ 89 ∧ T < 600000 := by
  obtain ⟨h1, h2, h3, h4, h5, h6, h7, h8⟩ := h
  have := (Ch.sg hW P S h1).1.le hW
  refine ⟨this, ?_⟩
  split at h8 <;> omega
theorem nx_cases {Q : cs_Mem} {S : Ms} {y : Nat} : mNx Q S y = 3 ∨ (mNx Q S y < 3 ∧ mAb Q S (mNx Q S y) = true) := by
  unfold mNx
  split
  · rename_i h; right; exact ⟨by omega, h.2⟩
  · split
    · rename_i h; right; exact ⟨by omega, h.2⟩
    · split
      · rename_i h; right; exact ⟨by omega, h.2⟩
      · left; rfl
theorem Cfg.down {Q : cs_Mem} {P : List (Ms × Nat)} {S : Ms} {y o s T : Nat} {l : List Nat} (h : Cfg Q P S y l o s T) (hr : ¬ mNx Q S y = 3) : Cfg Q ((S, mNx Q S y) :: P) (mStep Q S (mNx Q S y)) 0 l o s (T + 1) := by
  obtain ⟨h1, h2, h3, h4, h5, h6, h7, h8⟩ := h
  rcases nx_cases (Q := Q) (S := S) (y := y) with q | q
  · exact absurd q hr
  · refine ⟨⟨q.1, q.2, rfl, h1⟩, by omega, h3, h4, h5, h6, h7, ?_⟩
    rw [if_pos rfl]
    simp
    split at h8 <;> omega
theorem lr_le {Q : cs_Mem} {S : Ms} {t : Nat} (hI : InvS Q S) (ht : t < 3) : lrN Q S t ≤ 50 := by
  unfold lrN
  have := fl_le hI ht
  split <;> omega
theorem oc_lt {Q : cs_Mem} {S : Ms} (hI : InvS Q S) : ocN Q S < 1000000 := by
  have := lr_le hI (t := 0) (by omega)
  have := lr_le hI (t := 1) (by omega)
  have := lr_le hI (t := 2) (by omega)
  unfold ocN
  omega
theorem Cfg.up {Q : cs_Mem} {P : List (Ms × Nat)} {q : Ms × Nat} {S : Ms} {y o s T : Nat} {l : List Nat} (hW : WP Q) (h : Cfg Q (q :: P) S y l o s T) (ho : ¬ 3000 < no y o) : Cfg Q P q.1 (q.2 + 1) (nl Q S y l) (no y o) (ns Q S y s) (T + 1) := by
  have hd := (h.T hW).1
  obtain ⟨h1, h2, h3, h4, h5, h6, h7, h8⟩ := h
  have hI := (Ch.sg hW _ S h1).1.1
  have hoc := oc_lt hI
  have hst : stk Q S ≤ 1 := by unfold stk; split <;> omega
  obtain ⟨c1, c2, c3, c4⟩ := h1
  simp at hd
  refine ⟨c4, by omega, ?_, ?_, ?_, by omega, ?_, ?_⟩
  · unfold nl
    split
    · exact ins_sorted l _ h3
    · exact h3
  · unfold nl
    split
    · intro x hx
      rcases ins_mem l _ x hx with w | w
      · rw [w]; exact hoc
      · exact h4 x w
    · exact h4
  · unfold nl no
    split
    · have := (ins_len l (ocN Q S)).1
      omega
    · exact h5
  · unfold ns no
    split <;> omega
  · rw [if_neg (by omega)]
    unfold no
    simp at h8
    split at h8
    · rename_i e
      rw [if_pos e]
      omega
    · rename_i e
      rw [if_neg e]
      omega
theorem Cfg.zero (Q : cs_Mem) : Cfg Q [] msZ 0 [] 0 0 0 := ⟨rfl, by omega, List.Pairwise.nil, fun x hx => by simp at hx, by simp, by omega, by omega, by simp⟩
/-- the outcomes in a row -/
def FE (l : List Nat) (r : Nat → Int32) : Prop := ∀ i, i < l.length → r i = nI (l.getD i 0)
theorem FE.ins {l : List Nat} {r r' : Nat → Int32} {x k : Nat} (h : FE l r) (hk : k ≤ l.length) (h1 : ∀ i, i < k → r' i = r i) (h2 : r' k = nI x) (h3 : ∀ i, k ≤ i → i < l.length → r' (i + 1) = r i) : FE (l.take k ++ x :: l.drop k) r' := by
  intro i hi
  have hlen : (l.take k).length = k := by simp; omega
  simp at hi
  rcases Nat.lt_trichotomy i k with q | q | q
  · rw [h1 i q, h i (by omega)]
    simp [List.getElem?_append, q, hlen]
    rw [List.getElem?_eq_getElem (by omega)]
    rfl
  · subst q
    rw [h2]
    have e : min i l.length = i := by omega
    simp [List.getElem?_append, hlen, e]
  · obtain ⟨j, rfl⟩ : ∃ j, i = j + 1 := ⟨i - 1, by omega⟩
    rw [h3 j (by omega) (by omega), h j (by omega)]
    have e : min k l.length = k := by omega
    have e2 : ¬ j + 1 < k := by omega
    have e3 : j + 1 - k = (j - k) + 1 := by omega
    have e4 : k + (j - k) = j := by omega
    simp [List.getElem?_append, hlen, e, e2, e3, e4]
theorem lo_le {l : List Nat} {x k i : Nat} (h : IsLo l x k) (hi : i < k) : l.getD i 0 < x := h.2.1 i hi
theorem sorted_getD {l : List Nat} (h : l.Pairwise (· < ·)) {i j : Nat} (hij : i < j) (hj : j < l.length) : l.getD i 0 < l.getD j 0 := by
  have := List.pairwise_iff_getElem.mp h i j (by omega) hj hij
  rw [List.getD_eq_getElem?_getD, List.getD_eq_getElem?_getD, List.getElem?_eq_getElem (by omega), List.getElem?_eq_getElem hj]
  exact this
