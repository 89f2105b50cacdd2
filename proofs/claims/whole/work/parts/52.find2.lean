def Pw (n : Nat) : Prop := ∃ e, e ≤ 10 ∧ n = 4 * 2 ^ e
theorem Pw.le {n : Nat} (h : Pw n) : 4 ≤ n ∧ n ≤ 4096 := by
  obtain ⟨e, h1, rfl⟩ := h
  have := Nat.pow_le_pow_right (n := 2) (by omega) h1
  have : 0 < 2 ^ e := Nat.pow_pos (by omega)
  omega
theorem Pw.dbl {n : Nat} (h : Pw n) (hn : n ≤ 3000) : Pw (2 * n) := by
  obtain ⟨e, h1, rfl⟩ := h
  have he : e ≤ 9 := by
    by_cases q : e ≤ 9
    · exact q
    · have : e = 10 := by omega
      subst this
      have : 4 * 2 ^ 10 = 4096 := by decide
      omega
  refine ⟨e + 1, by omega, ?_⟩
  rw [Nat.pow_succ]
  omega
theorem c_put1 {N : cs_Mem} {l : List Nat} {x k : Nat} (h : FE l (N 61)) (h4 : N 55 4 = nI l.length) (hk : k ≤ l.length) (hl : l.length < cs_ln N 61) (hb : cs_ln N 61 ≤ 4096) : fpre1 N (nI k) ∧ FE (l.take k ++ x :: l.drop k) (fput1 N (nI x) (nI k) 61) ∧ fput1 N (nI x) (nI k) 55 4 = nI (l.length + 1) ∧ (∀ q, q ≠ 4 → fput1 N (nI x) (nI k) 55 q = N 55 q) ∧ ∀ i, i ≠ 55 → i ≠ 61 → fput1 N (nI x) (nI k) i = N i := by
  have e1 : (nI k + 1).toNatClampNeg = k + 1 := by rw [nI_1]; exact nI_clamp (by omega)
  have e2 : (nI l.length - nI k).toNatClampNeg = l.length - k := by rw [nsub hk]; exact nI_clamp (by omega)
  have e3 : (nI k).toNatClampNeg = k := nI_clamp (by omega)
  refine ⟨?_, ?_, ?_, ?_, ?_⟩
  · unfold fpre1
    rw [h4, e1, e2, e3, nI_1, nsub hk, cs_ln_up (show 61 < cs_n by decide)]
    exact ⟨nI_pos (by omega), nI_pos (by omega), nI_pos (by omega), by omega, by omega, vp_in_nI (by omega) (by omega), trivial⟩
  · have e : fput1 N (nI x) (nI k) 61 = upd (va_cpy (N 61) (N 61) k (k + 1) (l.length - k)) k (nI x) := by
      unfold fput1
      rw [cs_up_ne _ _ (show 61 ≠ 55 by omega), cs_up_self, cs_up_self, h4, e1, e2, e3]
    rw [e]
    refine FE.ins h hk (fun i hi => ?_) up_s (fun i h1 h2 => ?_)
    · rw [up_n (by omega)]
      unfold va_cpy
      rw [if_neg (by omega)]
    · rw [up_n (by omega)]
      unfold va_cpy
      rw [if_pos (by omega)]
      exact congrArg (N 61) (by omega)
  · unfold fput1
    rw [cs_up_self, up_s, cs_up_ne _ _ (show 55 ≠ 61 by omega), cs_up_ne _ _ (show 55 ≠ 61 by omega), h4, nI_1]
  · intro q hq
    unfold fput1
    rw [cs_up_self, up_n hq, cs_up_ne _ _ (show 55 ≠ 61 by omega), cs_up_ne _ _ (show 55 ≠ 61 by omega)]
  · intro i h1 h2
    unfold fput1
    rw [cs_up_ne _ _ h1, cs_up_ne _ _ h2, cs_up_ne _ _ h2]
/-- what has become of the explorer's found row -/
def FR (M N : cs_Mem) (l : List Nat) : Prop := FE l (N 61) ∧ N 55 4 = nI l.length ∧ (∀ q, q ≠ 4 → N 55 q = M 55 q) ∧ (∀ i, i ≠ 55 → i ≠ 61 → i ≠ 1000 → N i = M i) ∧ Pw (cs_ln N 61) ∧ l.length ≤ cs_ln N 61 ∧ cs_ln M 61 ≤ cs_ln N 61 ∧ (¬ cs_ln N 61 = cs_ln M 61 → cs_ln M 61 + 4 ≤ cs_ln N 61)
def FS (M : cs_Mem) (l : List Nat) : Prop := FE l (M 61) ∧ M 55 4 = nI l.length ∧ Pw (cs_ln M 61) ∧ l.length ≤ cs_ln M 61
theorem len_ins {l : List Nat} {x k : Nat} (hk : k ≤ l.length) : (l.take k ++ x :: l.drop k).length = l.length + 1 := by
  simp
  omega
theorem ln_eq {M N : cs_Mem} (h : N 1000 = M 1000) : cs_ln N 61 = cs_ln M 61 := by
  rw [cs_ln61, cs_ln61, h]
theorem c_put {M : cs_Mem} {l : List Nat} {x k : Nat} (h : FS M l) (hk : k ≤ l.length) (hl : l.length ≤ 3000) : fpre M (nI k) ∧ FR M (fput M (nI x) (nI k)) (l.take k ++ x :: l.drop k) := by
  obtain ⟨h1, h2, h3, h4⟩ := h
  have hb := h3.le
  unfold fpre fput
  rw [h2]
  by_cases c : l.length < cs_ln M 61
  · have c' : nI l.length < nI (cs_ln M 61) := (nlt (by omega) (by omega)).mpr c
    rw [if_pos c']
    have r := c_put1 (x := x) h1 h2 hk c hb.2
    have el : cs_ln (fput1 M (nI x) (nI k)) 61 = cs_ln M 61 := ln_eq (r.2.2.2.2 1000 (by omega) (by omega))
    refine ⟨⟨fun _ => r.1, fun q => absurd c' q⟩, r.2.1, ?_, r.2.2.2.1, fun i q1 q2 _ => r.2.2.2.2 i q1 q2, ?_, ?_, ?_, ?_⟩
    · rw [r.2.2.1, len_ins hk]
    · rw [el]; exact h3
    · rw [el, len_ins hk]; omega
    · rw [el]; exact Nat.le_refl _
    · rw [el]; intro q; exact absurd rfl q
  · have c' : ¬ nI l.length < nI (cs_ln M 61) := fun q => c ((nlt (by omega) (by omega)).mp q)
    rw [if_neg c']
    have g : cs_ln (cs_grow M (2 * cs_ln M 61)) 61 = 2 * cs_ln M 61 := cs_grow_ln M (by omega)
    have dl := h3.dbl (by omega)
    have g61 : FE l (cs_grow M (2 * cs_ln M 61) 61) := by
      intro i hi
      have e : cs_grow M (2 * cs_ln M 61) 61 = va_cpy (M 61) (fun _ => 0) 0 0 (cs_ln M 61) := by
        unfold cs_grow
        rw [cs_up_ne _ _ (show 61 ≠ 1000 by omega), cs_up_self]
      rw [e]
      unfold va_cpy
      rw [if_pos (by omega)]
      have : 0 + (i - 0) = i := by omega
      rw [this]
      exact h1 i hi
    have g55 : cs_grow M (2 * cs_ln M 61) 55 = M 55 := by
      unfold cs_grow
      rw [cs_up_ne _ _ (show 55 ≠ 1000 by omega), cs_up_ne _ _ (show 55 ≠ 61 by omega)]
    have gi : ∀ i, i ≠ 61 → i ≠ 1000 → cs_grow M (2 * cs_ln M 61) i = M i := fun i q1 q2 => by
      unfold cs_grow
      rw [cs_up_ne _ _ q2, cs_up_ne _ _ q1]
    have r := c_put1 (x := x) g61 (by rw [g55]; exact h2) hk (by rw [g]; omega) (by rw [g]; exact dl.le.2)
    have el : cs_ln (fput1 (cs_grow M (2 * cs_ln M 61)) (nI x) (nI k)) 61 = 2 * cs_ln M 61 := (ln_eq (r.2.2.2.2 1000 (by omega) (by omega))).trans g
    refine ⟨⟨fun q => absurd q c', fun _ => ⟨by omega, by omega, r.1⟩⟩, r.2.1, ?_, fun q hq => ?_, fun i q1 q2 q3 => ?_, ?_, ?_, ?_, ?_⟩
    · rw [r.2.2.1, len_ins hk]
    · rw [r.2.2.2.1 q hq, g55]
    · rw [r.2.2.2.2 i q1 q2, gi i q2 q3]
    · rw [el]; exact dl
    · rw [el, len_ins hk]; omega
    · rw [el]; omega
    · rw [el]; intro _; omega
theorem c_findL {M : cs_Mem} {l : List Nat} {x : Nat} (h : FS M l) (hl : l.length ≤ 3000) (hx : x < 1000000) (hs : l.Pairwise (· < ·)) (hm : ∀ y, y ∈ l → y < 1000000) : ∀ (a n : Nat), a ≤ l.length → a < n → (∀ i, a ≤ i → i < l.length → x < l.getD i 0) → pre_Ex_find_L5 n M (nI x) (nI a) ∧ FR M (f_Ex_find_L5 n M (nI x) (nI a)) (insN l x) := by
  have hb := h.2.2.1.le
  intro a
  induction a with
  | zero =>
    intro n h1 h2 h3
    obtain ⟨m, rfl⟩ : ∃ m, n = m + 1 := ⟨n - 1, by omega⟩
    have il : IsLo l x 0 := ⟨by omega, fun i hi => by omega, fun i _ hi => Nat.le_of_lt (h3 i (by omega) hi)⟩
    have ei := ins_lo l x 0 hs il
    rw [if_neg (fun q => by have := h3 0 (by omega) q.1; omega)] at ei
    have p := c_put (x := x) h (k := 0) (by omega) hl
    have c0 : nI 0 ≤ 0 := by decide
    rw [find_S, if_pos c0, ei]
    exact ⟨pfind_S m M _ _ (fun _ => p.1) (fun q => absurd c0 q), p.2⟩
  | succ a ih =>
    intro n h1 h2 h3
    obtain ⟨m, rfl⟩ : ∃ m, n = m + 1 := ⟨n - 1, by omega⟩
    have c0 : ¬ nI (a + 1) ≤ 0 := fun q => absurd ((nle (b := 0) (by omega) (by omega)).mp q) (by omega)
    have ea : M 61 a = nI (l.getD a 0) := h.1 a (by omega)
    have hla : l.getD a 0 < 1000000 := by
      rw [List.getD_eq_getElem?_getD, List.getElem?_eq_getElem (by omega)]
      exact hm _ (List.getElem_mem _)
    have fs := find_S m M (nI x) (nI (a + 1))
    have ps := pfind_S m M (nI x) (nI (a + 1))
    rw [if_neg c0, nI_pred, nI_clamp (by omega), ea] at fs
    rw [nI_pred, nI_clamp (by omega), ea] at ps
    have hin : vp_in (nI a) (cs_ln M 61) := vp_in_nI (by have := h.2.2.2; omega) (by omega)
    rw [nI_m1'] at fs ps
    by_cases q : l.getD a 0 ≤ x
    · have q' : nI (l.getD a 0) ≤ nI x := (nle (by omega) (by omega)).mpr q
      rw [if_pos q'] at fs
      by_cases w : l.getD a 0 = x
      · rw [if_pos (by rw [w])] at fs
        have il : IsLo l x a := ⟨by omega, fun i hi => by rw [← w]; exact sorted_getD hs hi (by omega), fun i g1 g2 => by
          rcases Nat.lt_or_ge a i with v | v
          · exact Nat.le_of_lt (h3 i (by omega) g2)
          · have : i = a := by omega
            rw [this, w]
            exact Nat.le_refl _⟩
        have ei := ins_lo l x a hs il
        rw [if_pos ⟨by omega, w⟩] at ei
        rw [fs, ei]
        refine ⟨ps (fun g => absurd g c0) (fun _ => ⟨hin, fun _ g => absurd (by rw [w]) g, fun g => absurd q' g⟩), h.1, h.2.1, fun _ _ => rfl, fun _ _ _ _ => rfl, h.2.2.1, h.2.2.2, Nat.le_refl _, fun g => absurd rfl g⟩
      · have w' : ¬ nI (l.getD a 0) = nI x := fun g => w ((neq (by omega) (by omega)).mp g)
        rw [if_neg w'] at fs
        have il : IsLo l x (a + 1) := ⟨by omega, fun i hi => by
          rcases Nat.lt_or_ge i a with v | v
          · have := sorted_getD hs v (by omega)
            omega
          · have : i = a := by omega
            rw [this]
            omega, fun i g1 g2 => Nat.le_of_lt (h3 i (by omega) g2)⟩
        have ei := ins_lo l x (a + 1) hs il
        rw [if_neg (fun g => by have := h3 (a + 1) (by omega) g.1; omega)] at ei
        have p := c_put (x := x) h (k := a + 1) (by omega) hl
        rw [fs, ei]
        exact ⟨ps (fun g => absurd g c0) (fun _ => ⟨hin, fun _ _ => p.1, fun g => absurd q' g⟩), p.2⟩
    · have q' : ¬ nI (l.getD a 0) ≤ nI x := fun g => q ((nle (by omega) (by omega)).mp g)
      rw [if_neg q'] at fs
      have r := ih m (by omega) (by omega) (fun i g1 g2 => by
        rcases Nat.lt_or_ge a i with v | v
        · exact h3 i (by omega) g2
        · have : i = a := by omega
          rw [this]
          omega)
      rw [fs]
      exact ⟨ps (fun g => absurd g c0) (fun _ => ⟨hin, fun g => absurd g q', fun _ => r.1⟩), r.2⟩
theorem c_find {M : cs_Mem} {l : List Nat} {x : Nat} (h : FS M l) (hl : l.length ≤ 3000) (hx : x < 1000000) (hs : l.Pairwise (· < ·)) (hm : ∀ y, y ∈ l → y < 1000000) : pre_Ex_find M (nI x) ∧ FR M (f_Ex_find M (nI x)) (insN l x) := by
  unfold pre_Ex_find f_Ex_find
  simp only [cs_bd_eq]
  rw [h.2.1]
  exact c_findL h hl hx hs hm l.length 4000 (Nat.le_refl _) (by omega) (fun i g1 g2 => by omega)
