/-! the program's changes: numbers within, actions, and scripts that grow -/
theorem exn {x : Int32} (h : ¬ x < 0) : ∃ n, n < 2 ^ 31 ∧ x = nI n := by
  have h0 : 0 ≤ x.toInt := by
    have : ¬ x.toInt < (0 : Int32).toInt := fun q => h (Int32.lt_iff_toInt_lt.mpr q)
    rw [Int32.toInt_zero] at this
    omega
  have h1 := x.toInt_lt
  refine ⟨x.toInt.toNat, by omega, ?_⟩
  rw [← Int32.toInt_inj, nI_toInt (by omega)]
  omega
theorem exb {x : Int32} {b : Nat} (hb : b < 1000000) (h : ¬ x < 0) (h2 : x < nI b) : ∃ n, n < b ∧ x = nI n := by
  obtain ⟨n, hn, rfl⟩ := exn h
  exact ⟨n, (nI_ltI hn (by omega)).mp h2, rfl⟩
theorem below_out (M N : cs_Mem) (x : Int32) (b : Nat) (hb : b < 1000000) : (f_Pr_isBelow M x (nI b) = 1 ∧ f_Mo_out N x (nI b) = 0 ∧ ∃ n, n < b ∧ x = nI n) ∨ (f_Pr_isBelow M x (nI b) = 0 ∧ f_Mo_out N x (nI b) = 1 ∧ ¬ ∃ n, n < b ∧ x = nI n) := by
  unfold f_Pr_isBelow f_Mo_out
  by_cases h : x < 0
  · rw [if_pos h, if_pos h]
    exact Or.inr ⟨rfl, rfl, fun ⟨n, hn, e⟩ => absurd h (by rw [e]; exact npos (by omega))⟩
  · rw [if_neg h, if_neg h]
    obtain ⟨n, hn, rfl⟩ := exn h
    by_cases q : n < b
    · rw [if_neg (fun w => absurd ((nI_leI (by omega) hn).mp w) (by omega)), if_pos ((nI_ltI hn (by omega)).mpr q)]
      exact Or.inl ⟨rfl, rfl, n, q, rfl⟩
    · rw [if_pos ((nI_leI (by omega) hn).mpr (by omega)), if_neg (fun w => q ((nI_ltI hn (by omega)).mp w))]
      exact Or.inr ⟨rfl, rfl, fun ⟨m, hm, e⟩ => q (by rw [(nI_eq hn (by omega)).mp e]; exact hm)⟩
theorem decl_out {M : cs_Mem} (N : cs_Mem) (hW : WP M) (x : Int32) : (f_Pr_isDeclared M 1 x = 1 ∧ f_Mo_out N x (nI (pgN M)) = 0 ∧ ∃ n, n < pgN M ∧ x = nI n) ∨ (f_Pr_isDeclared M 1 x = 0 ∧ f_Mo_out N x (nI (pgN M)) = 1 ∧ ¬ ∃ n, n < pgN M ∧ x = nI n) := by
  have h := below_out M N x (pgN M) (by have := (wpN hW).2; omega)
  have e : f_Pr_isDeclared M 1 x = f_Pr_isBelow M x (nI (pgN M)) := by
    unfold f_Pr_isDeclared f_Pr_isBelow
    rw [(wpN hW).1]
  rw [e]
  exact h
theorem thr_out (M N : cs_Mem) (x : Int32) : (f_X_isThread M x = 1 ∧ f_Mo_out N x 3 = 0 ∧ ∃ n, n < 3 ∧ x = nI n) ∨ (f_X_isThread M x = 0 ∧ f_Mo_out N x 3 = 1 ∧ ¬ ∃ n, n < 3 ∧ x = nI n) := below_out M N x 3 (by omega)
def AOK (a : Nat) (x y : Int32) : Prop := a ≤ 6 ∧ (a = 0 → ∃ n, n < 8 ∧ x = nI n) ∧ (a = 2 → (x = 0 ∨ x = 1) ∧ ∃ n, n < 8 ∧ y = nI n) ∧ (a = 3 ∨ a = 4 → ∃ n, n < 10 ∧ x = nI n)
theorem i01 {x : Int32} (h : ∃ n, n < 2 ∧ x = nI n) : x = 0 ∨ x = 1 := by
  obtain ⟨n, hn, rfl⟩ := h
  have : n = 0 ∨ n = 1 := by omega
  rcases this with rfl | rfl
  · exact Or.inl rfl
  · exact Or.inr rfl
theorem act_p (M : cs_Mem) (a x y : Int32) : pre_Pr_isAction M a x y := by
  have b : ∀ (x : Int32) (n : Nat), n < 1000000 → f_Pr_isBelow M x (nI n) = 0 ∨ f_Pr_isBelow M x (nI n) = 1 := fun x n hn => by
    rcases below_out M M x n hn with h | h
    · exact Or.inr h.1
    · exact Or.inl h.1
  unfold pre_Pr_isAction
  simp only [cs_bd_eq]
  exact ⟨fun _ => ⟨b x 8 (by omega), trivial⟩, fun _ => ⟨fun _ => trivial, fun _ => ⟨fun _ => trivial, fun _ => ⟨fun _ => ⟨b x 10 (by omega), trivial⟩, fun _ => ⟨fun _ => ⟨b x 10 (by omega), trivial⟩, fun _ => trivial⟩⟩⟩⟩⟩
theorem bad_p (M : cs_Mem) (a x y : Int32) : pre_Mo_badOperands M a x y := by
  have b : ∀ (x : Int32) (n : Nat), n < 1000000 → f_Mo_out M x (nI n) = 0 ∨ f_Mo_out M x (nI n) = 1 := fun x n hn => by
    rcases below_out M M x n hn with h | h
    · exact Or.inl h.2.1
    · exact Or.inr h.2.1
  unfold pre_Mo_badOperands pre_Mo_badOperands_J21
  simp only [cs_bd_eq]
  exact ⟨fun _ => ⟨b x 8 (by omega), trivial⟩, fun _ => ⟨fun _ => ⟨b x 10 (by omega), trivial⟩, fun _ => ⟨fun _ => ⟨b x 10 (by omega), trivial⟩, fun _ => trivial⟩⟩⟩
theorem ia (M : cs_Mem) (a x y : Int32) : f_Pr_isAction M a x y = if a = 0 then f_Pr_isBelow M x 8 else if a = 1 then 1 else if a = 2 then (if f_Pr_isBelow M x 2 = 0 then 0 else if f_Pr_isBelow M y 8 = 0 then 0 else 1) else if a = 3 then f_Pr_isBelow M x 10 else if a = 4 then f_Pr_isBelow M x 10 else if a = 5 then 1 else if a = 6 then 1 else 0 := by
  unfold f_Pr_isAction
  simp only [cs_bd_eq]
theorem ba (M : cs_Mem) (a x y : Int32) : f_Mo_badOperands M a x y = if a = 0 then f_Mo_out M x 8 else if a = 3 then f_Mo_out M x 10 else if a = 4 then f_Mo_out M x 10 else if a = 2 then (if f_Mo_out M x 2 = 0 then (if f_Mo_out M y 8 = 0 then 0 else 1) else 1) else 0 := by
  unfold f_Mo_badOperands f_Mo_badOperands_J21
  simp only [cs_bd_eq]
theorem act_dec (M N : cs_Mem) (a x y : Int32) : (f_Pr_isAction M a x y = 1 ∧ f_Mo_out N a 7 = 0 ∧ f_Mo_badOperands N a x y = 0 ∧ ∃ n, a = nI n ∧ AOK n x y) ∨ (f_Pr_isAction M a x y = 0 ∧ (f_Mo_out N a 7 = 1 ∨ (f_Mo_out N a 7 = 0 ∧ f_Mo_badOperands N a x y = 1))) := by
  rcases below_out M N a 7 (by omega) with h | h
  · obtain ⟨-, ho, n, hn, rfl⟩ := h
    have ho : f_Mo_out N (nI n) 7 = 0 := ho
    have b8 := below_out M N x 8 (by omega)
    have b2 := below_out M N x 2 (by omega)
    have b10 := below_out M N x 10 (by omega)
    have y8 := below_out M N y 8 (by omega)
    have hc : n = 0 ∨ n = 1 ∨ n = 2 ∨ n = 3 ∨ n = 4 ∨ n = 5 ∨ n = 6 := by omega
    rcases hc with rfl | rfl | rfl | rfl | rfl | rfl | rfl
    · rw [ia, ba, if_pos (show nI 0 = 0 by decide), if_pos (show nI 0 = 0 by decide)]
      rcases b8 with q | q
      · exact Or.inl ⟨q.1, ho, q.2.1, 0, rfl, by omega, fun _ => q.2.2, fun w => by omega, fun w => by omega⟩
      · exact Or.inr ⟨q.1, Or.inr ⟨ho, q.2.1⟩⟩
    · rw [ia, ba, if_neg (show ¬ nI 1 = 0 by decide), if_pos (show nI 1 = 1 by decide), if_neg (show ¬ nI 1 = 0 by decide), if_neg (show ¬ nI 1 = 3 by decide), if_neg (show ¬ nI 1 = 4 by decide), if_neg (show ¬ nI 1 = 2 by decide)]
      exact Or.inl ⟨rfl, ho, rfl, 1, rfl, by omega, fun w => by omega, fun w => by omega, fun w => by omega⟩
    · rw [ia, ba, if_neg (show ¬ nI 2 = 0 by decide), if_neg (show ¬ nI 2 = 1 by decide), if_pos (show nI 2 = 2 by decide), if_neg (show ¬ nI 2 = 0 by decide), if_neg (show ¬ nI 2 = 3 by decide), if_neg (show ¬ nI 2 = 4 by decide), if_pos (show nI 2 = 2 by decide)]
      rcases b2 with q | q
      · have q1 : f_Pr_isBelow M x 2 = 1 := q.1
        have q2 : f_Mo_out N x 2 = 0 := q.2.1
        rw [q1, q2, if_neg (show ¬ (1 : Int32) = 0 by decide), if_pos (show (0 : Int32) = 0 from rfl)]
        rcases y8 with w | w
        · have w1 : f_Pr_isBelow M y 8 = 1 := w.1
          have w2 : f_Mo_out N y 8 = 0 := w.2.1
          rw [w1, w2, if_neg (show ¬ (1 : Int32) = 0 by decide), if_pos (show (0 : Int32) = 0 from rfl)]
          exact Or.inl ⟨rfl, ho, rfl, 2, rfl, by omega, fun w => by omega, fun _ => ⟨i01 q.2.2, w.2.2⟩, fun w => by omega⟩
        · have w1 : f_Pr_isBelow M y 8 = 0 := w.1
          have w2 : f_Mo_out N y 8 = 1 := w.2.1
          rw [w1, w2, if_pos (show (0 : Int32) = 0 from rfl), if_neg (show ¬ (1 : Int32) = 0 by decide)]
          exact Or.inr ⟨rfl, Or.inr ⟨ho, rfl⟩⟩
      · have q1 : f_Pr_isBelow M x 2 = 0 := q.1
        have q2 : f_Mo_out N x 2 = 1 := q.2.1
        rw [q1, q2, if_pos (show (0 : Int32) = 0 from rfl), if_neg (show ¬ (1 : Int32) = 0 by decide)]
        exact Or.inr ⟨rfl, Or.inr ⟨ho, rfl⟩⟩
    · rw [ia, ba, if_neg (show ¬ nI 3 = 0 by decide), if_neg (show ¬ nI 3 = 1 by decide), if_neg (show ¬ nI 3 = 2 by decide), if_pos (show nI 3 = 3 by decide), if_neg (show ¬ nI 3 = 0 by decide), if_pos (show nI 3 = 3 by decide)]
      rcases b10 with q | q
      · exact Or.inl ⟨q.1, ho, q.2.1, 3, rfl, by omega, fun w => by omega, fun w => by omega, fun _ => q.2.2⟩
      · exact Or.inr ⟨q.1, Or.inr ⟨ho, q.2.1⟩⟩
    · rw [ia, ba, if_neg (show ¬ nI 4 = 0 by decide), if_neg (show ¬ nI 4 = 1 by decide), if_neg (show ¬ nI 4 = 2 by decide), if_neg (show ¬ nI 4 = 3 by decide), if_pos (show nI 4 = 4 by decide), if_neg (show ¬ nI 4 = 0 by decide), if_neg (show ¬ nI 4 = 3 by decide), if_pos (show nI 4 = 4 by decide)]
      rcases b10 with q | q
      · exact Or.inl ⟨q.1, ho, q.2.1, 4, rfl, by omega, fun w => by omega, fun w => by omega, fun _ => q.2.2⟩
      · exact Or.inr ⟨q.1, Or.inr ⟨ho, q.2.1⟩⟩
    · rw [ia, ba, if_neg (show ¬ nI 5 = 0 by decide), if_neg (show ¬ nI 5 = 1 by decide), if_neg (show ¬ nI 5 = 2 by decide), if_neg (show ¬ nI 5 = 3 by decide), if_neg (show ¬ nI 5 = 4 by decide), if_pos (show nI 5 = 5 by decide), if_neg (show ¬ nI 5 = 0 by decide), if_neg (show ¬ nI 5 = 3 by decide), if_neg (show ¬ nI 5 = 4 by decide), if_neg (show ¬ nI 5 = 2 by decide)]
      exact Or.inl ⟨rfl, ho, rfl, 5, rfl, by omega, fun w => by omega, fun w => by omega, fun w => by omega⟩
    · rw [ia, ba, if_neg (show ¬ nI 6 = 0 by decide), if_neg (show ¬ nI 6 = 1 by decide), if_neg (show ¬ nI 6 = 2 by decide), if_neg (show ¬ nI 6 = 3 by decide), if_neg (show ¬ nI 6 = 4 by decide), if_neg (show ¬ nI 6 = 5 by decide), if_pos (show nI 6 = 6 by decide), if_neg (show ¬ nI 6 = 0 by decide), if_neg (show ¬ nI 6 = 3 by decide), if_neg (show ¬ nI 6 = 4 by decide), if_neg (show ¬ nI 6 = 2 by decide)]
      exact Or.inl ⟨rfl, ho, rfl, 6, rfl, by omega, fun w => by omega, fun w => by omega, fun w => by omega⟩
  · have ho : f_Mo_out N a 7 = 1 := h.2.1
    refine Or.inr ⟨?_, Or.inl ho⟩
    rw [ia, if_neg (show ¬ a = 0 from fun e => h.2.2 ⟨0, by omega, e⟩), if_neg (show ¬ a = 1 from fun e => h.2.2 ⟨1, by omega, e⟩), if_neg (show ¬ a = 2 from fun e => h.2.2 ⟨2, by omega, e⟩), if_neg (show ¬ a = 3 from fun e => h.2.2 ⟨3, by omega, e⟩), if_neg (show ¬ a = 4 from fun e => h.2.2 ⟨4, by omega, e⟩), if_neg (show ¬ a = 5 from fun e => h.2.2 ⟨5, by omega, e⟩), if_neg (show ¬ a = 6 from fun e => h.2.2 ⟨6, by omega, e⟩)]
/-- a script with one part more at its end -/
def App (M N : cs_Mem) (f L : Nat) (a x y : Int32) : Prop := N (8 + 4 * f) = upd (M (8 + 4 * f)) 5 (nI (L + 1)) ∧ N (8 + 4 * f + 1) = upd (M (8 + 4 * f + 1)) L a ∧ N (8 + 4 * f + 2) = upd (M (8 + 4 * f + 2)) L x ∧ N (8 + 4 * f + 3) = upd (M (8 + 4 * f + 3)) L y ∧ ∀ i, (i < 8 + 4 * f ∨ 8 + 4 * f + 3 < i) → N i = M i
def sh (r : Nat → Int32) (U L : Nat) (x : Int32) : Nat → Int32 := upd (va_cpy r r U (U + 1) (L - U)) U x
/-- a script with one use more ahead -/
def Ins (M N : cs_Mem) (f L U : Nat) (x : Int32) : Prop := N (8 + 4 * f) = upd (upd (M (8 + 4 * f)) 5 (nI (L + 1))) 4 (nI (U + 1)) ∧ N (8 + 4 * f + 1) = sh (M (8 + 4 * f + 1)) U L 0 ∧ N (8 + 4 * f + 2) = sh (M (8 + 4 * f + 2)) U L x ∧ N (8 + 4 * f + 3) = sh (M (8 + 4 * f + 3)) U L 0 ∧ ∀ i, (i < 8 + 4 * f ∨ 8 + 4 * f + 3 < i) → N i = M i
theorem wpLU {M : cs_Mem} {f : Nat} (hW : WP M) (hf : f < 11) : M (8 + 4 * f) 5 = nI (pgL M f) ∧ M (8 + 4 * f) 4 = nI (pgU M f) ∧ pgU M f ≤ pgL M f ∧ pgU M f ≤ 3 ∧ pgL M f ≤ pgU M f + (if f < 8 then 5 else 3) ∧ pgL M f ≤ (if f < 8 then 8 else 3) := by
  obtain ⟨⟨L, U, h1, h2, h3, h4, h5, h6⟩, -, -⟩ := hW.2.2.2 f hf
  have hL : L ≤ 8 := by split at h6 <;> omega
  have e1 : pgL M f = L := by unfold pgL; rw [h1]; exact nI_clamp (by omega)
  have e2 : pgU M f = U := by unfold pgU; rw [h2]; exact nI_clamp (by omega)
  rw [e1, e2]
  exact ⟨h1, h2, h3, h4, h5, h6⟩
theorem wr {M : cs_Mem} {j n : Nat} {a x y : Int32} (hn : n < 1000) : (∀ i, i ≠ j + 1 → i ≠ j + 2 → i ≠ j + 3 → f_Sc_write M j (nI n) a x y i = M i) ∧ f_Sc_write M j (nI n) a x y (j + 1) = upd (M (j + 1)) n a ∧ f_Sc_write M j (nI n) a x y (j + 2) = upd (M (j + 2)) n x ∧ f_Sc_write M j (nI n) a x y (j + 3) = upd (M (j + 3)) n y := by
  unfold f_Sc_write
  simp only [cs_bd_eq]
  rw [nI_clamp (by omega)]
  refine ⟨fun i h1 h2 h3 => ?_, ?_, ?_, ?_⟩
  · rw [cs_up_ne _ _ h3, cs_up_ne _ _ h2, cs_up_ne _ _ h1]
  · rw [cs_up_ne _ _ (by omega), cs_up_ne _ _ (by omega), cs_up_self]
  · rw [cs_up_ne _ _ (by omega), cs_up_self, cs_up_ne _ _ (by omega)]
  · rw [cs_up_self, cs_up_ne _ _ (by omega), cs_up_ne _ _ (by omega)]
theorem ln_any (M N : cs_Mem) {j : Nat} (h : j ≠ 61) : cs_ln N j = cs_ln M j := by
  unfold cs_ln
  rw [if_neg h, if_neg h]
theorem pwr {M : cs_Mem} {f n : Nat} {a x y : Int32} (hf : f < 11) (hn : n < (if f < 8 then 8 else 3)) : pre_Sc_write M (8 + 4 * f) (nI n) a x y := by
  have sl := sln (M := M) hf
  have hl8 : (if f < 8 then 8 else 3 : Nat) ≤ 8 := by split <;> omega
  unfold pre_Sc_write
  simp only [cs_bd_eq]
  refine ⟨?_, ?_, ?_, trivial⟩
  · rw [sl.1]; exact vp_in_nI hn (by omega)
  · rw [ln_any M _ (by omega), sl.2.1]; exact vp_in_nI hn (by omega)
  · rw [ln_any M _ (by omega), sl.2.2]; exact vp_in_nI hn (by omega)
theorem c_addLast {M : cs_Mem} {f : Nat} {a x y : Int32} (hW : WP M) (hf : f < 11) (hU : 8 ≤ f → pgU M f = 0) : pre_Sc_addLast M (8 + 4 * f) a x y ∧ ((pgL M f < pgU M f + (if f < 8 then 5 else 3) ∧ (f_Sc_addLast M (8 + 4 * f) a x y).1 = nI (pgL M f - pgU M f + 1) ∧ App M (f_Sc_addLast M (8 + 4 * f) a x y).2 f (pgL M f) a x y) ∨ (pgL M f = pgU M f + (if f < 8 then 5 else 3) ∧ f_Sc_addLast M (8 + 4 * f) a x y = (-2, M))) := by
  obtain ⟨h1, h2, h3, h4, h5, h6⟩ := wpLU hW hf
  have h0 := (hW.2.2.2 f hf).2.1
  have hL : pgL M f ≤ 8 := by split at h6 <;> omega
  have hcap : (if f < 8 then 5 else 3 : Nat) ≤ 5 := by split <;> omega
  unfold pre_Sc_addLast f_Sc_addLast
  simp only [cs_bd_eq]
  rw [h1, h2, h0, nsub h3]
  by_cases c : pgL M f < pgU M f + (if f < 8 then 5 else 3)
  · have c' : nI (pgL M f - pgU M f) < nI (if f < 8 then 5 else 3) := (nlt (by omega) (by omega)).mpr (by omega)
    have hlt : pgL M f < (if f < 8 then 8 else 3) := by
      by_cases g : f < 8
      · rw [if_pos g] at c ⊢; omega
      · rw [if_neg g] at c ⊢
        have := hU (by omega)
        omega
    rw [if_pos c']
    obtain ⟨w0, w1, w2, w3⟩ := wr (M := M) (j := 8 + 4 * f) (n := pgL M f) (a := a) (x := x) (y := y) (by omega)
    have w00 := w0 (8 + 4 * f) (by omega) (by omega) (by omega)
    refine ⟨⟨fun _ => ⟨pwr hf hlt, trivial⟩, fun q => absurd c' q⟩, Or.inl ⟨c, ?_, ?_, ?_, ?_, ?_, fun i hi => ?_⟩⟩
    all_goals dsimp only
    · rw [cs_up_self, up_s, up_n (by omega), w00, h1, h2, nI_1, nsub (by omega)]
      exact congrArg nI (by omega)
    · rw [cs_up_self, w00, h1, nI_1]
    · rw [cs_up_ne _ _ (by omega), w1]
    · rw [cs_up_ne _ _ (by omega), w2]
    · rw [cs_up_ne _ _ (by omega), w3]
    · rw [cs_up_ne _ _ (by omega), w0 i (by omega) (by omega) (by omega)]
  · have c' : ¬ nI (pgL M f - pgU M f) < nI (if f < 8 then 5 else 3) := fun q => absurd ((nlt (by omega) (by omega)).mp q) (by omega)
    rw [if_neg c']
    exact ⟨⟨fun q => absurd q c', fun _ => trivial⟩, Or.inr ⟨by omega, rfl⟩⟩
theorem c_addUse {M : cs_Mem} {f : Nat} {x : Int32} (hf : f < 8) {L U : Nat} (h1 : M (8 + 4 * f) 5 = nI L) (h2 : M (8 + 4 * f) 4 = nI U) (hUL : U ≤ L) (hL : L < 8) : pre_Sc_addUseAhead M (8 + 4 * f) x ∧ Ins M (f_Sc_addUseAhead M (8 + 4 * f) x) f L U x := by
  have sl := sln (M := M) (f := f) (by omega)
  rw [if_pos hf] at sl
  have n1 : 8 + 4 * f ≠ 8 + 4 * f + 1 := by omega
  have n2 : 8 + 4 * f ≠ 8 + 4 * f + 2 := by omega
  have n3 : 8 + 4 * f ≠ 8 + 4 * f + 3 := by omega
  have c : nI L < nI (cs_ln M (8 + 4 * f + 1)) := by rw [sl.1]; exact (nlt (by omega) (by omega)).mpr hL
  have ed : (nI L - nI U).toNatClampNeg = L - U := by rw [nsub hUL]; exact nI_clamp (by omega)
  have eu : (nI U).toNatClampNeg = U := nI_clamp (by omega)
  have eu1 : (nI U + 1).toNatClampNeg = U + 1 := by rw [nI_1]; exact nI_clamp (by omega)
  have p1 : ¬ nI U < 0 := npos (by omega)
  have p2 : ¬ nI U + 1 < 0 := by rw [nI_1]; exact npos (by omega)
  have p3 : ¬ nI L - nI U < 0 := by rw [nsub hUL]; exact npos (by omega)
  unfold pre_Sc_addUseAhead f_Sc_addUseAhead
  simp only [cs_bd_eq]
  obtain ⟨A, hA⟩ : ∃ A, cs_up M (8 + 4 * f + 1) (va_cpy (M (8 + 4 * f + 1)) (M (8 + 4 * f + 1)) U (U + 1) (L - U)) = A := ⟨_, rfl⟩
  have a0 : A (8 + 4 * f) = M (8 + 4 * f) := by rw [← hA, cs_up_ne _ _ n1]
  obtain ⟨B, hB⟩ : ∃ B, cs_up A (8 + 4 * f + 2) (va_cpy (A (8 + 4 * f + 2)) (A (8 + 4 * f + 2)) U (U + 1) (L - U)) = B := ⟨_, rfl⟩
  have b0 : B (8 + 4 * f) = M (8 + 4 * f) := by rw [← hB, cs_up_ne _ _ n2, a0]
  obtain ⟨C, hC⟩ : ∃ C, cs_up B (8 + 4 * f + 3) (va_cpy (B (8 + 4 * f + 3)) (B (8 + 4 * f + 3)) U (U + 1) (L - U)) = C := ⟨_, rfl⟩
  have c0 : C (8 + 4 * f) = M (8 + 4 * f) := by rw [← hC, cs_up_ne _ _ n3, b0]
  obtain ⟨D, hD⟩ : ∃ D, cs_up C (8 + 4 * f) (upd (C (8 + 4 * f)) 5 (C (8 + 4 * f) 5 + 1)) = D := ⟨_, rfl⟩
  have d0 : D (8 + 4 * f) = upd (M (8 + 4 * f)) 5 (nI (L + 1)) := by rw [← hD, cs_up_self, c0, h1, nI_1]
  have d4 : D (8 + 4 * f) 4 = nI U := by rw [d0, up_n (by omega), h2]
  rw [h1, h2, ed, eu, eu1, hA, a0, h2, eu, eu1, hB, b0, h2, eu, eu1, hC, hD, d4, if_pos c]
  obtain ⟨w0, w1, w2, w3⟩ := wr (M := D) (j := 8 + 4 * f) (n := U) (a := 0) (x := x) (y := 0) (by omega)
  have w00 := w0 (8 + 4 * f) n1 n2 n3
  have k1 : D (8 + 4 * f + 1) = va_cpy (M (8 + 4 * f + 1)) (M (8 + 4 * f + 1)) U (U + 1) (L - U) := by
    rw [← hD, cs_up_ne _ _ (by omega), ← hC, cs_up_ne _ _ (by omega), ← hB, cs_up_ne _ _ (by omega), ← hA, cs_up_self]
  have k2 : D (8 + 4 * f + 2) = va_cpy (M (8 + 4 * f + 2)) (M (8 + 4 * f + 2)) U (U + 1) (L - U) := by
    rw [← hD, cs_up_ne _ _ (by omega), ← hC, cs_up_ne _ _ (by omega), ← hB, cs_up_self, ← hA, cs_up_ne _ _ (by omega)]
  have k3 : D (8 + 4 * f + 3) = va_cpy (M (8 + 4 * f + 3)) (M (8 + 4 * f + 3)) U (U + 1) (L - U) := by
    rw [← hD, cs_up_ne _ _ (by omega), ← hC, cs_up_self, ← hB, cs_up_ne _ _ (by omega), ← hA, cs_up_ne _ _ (by omega)]
  have l1 : cs_ln M (8 + 4 * f + 1) = 8 := sl.1
  have l2 : cs_ln A (8 + 4 * f + 2) = 8 := by rw [ln_any M _ (by omega)]; exact sl.2.1
  have l3 : cs_ln B (8 + 4 * f + 3) = 8 := by rw [ln_any M _ (by omega)]; exact sl.2.2
  refine ⟨⟨fun _ => ⟨p1, p2, p3, by omega, by omega, p1, p2, p3, by omega, by omega, p1, p2, p3, by omega, by omega, pwr (by omega) (by rw [if_pos hf]; omega), trivial⟩, fun q => absurd c q⟩, ?_, ?_, ?_, ?_, fun i hi => ?_⟩
  · rw [cs_up_self, w00, d0, up_n (by omega), h2, nI_1]
  · rw [cs_up_ne _ _ (by omega), w1, k1]; rfl
  · rw [cs_up_ne _ _ (by omega), w2, k2]; rfl
  · rw [cs_up_ne _ _ (by omega), w3, k3]; rfl
  · rw [cs_up_ne _ _ (by omega), w0 i (by omega) (by omega) (by omega), ← hD, cs_up_ne _ _ (by omega), ← hC, cs_up_ne _ _ (by omega), ← hB, cs_up_ne _ _ (by omega), ← hA, cs_up_ne _ _ (by omega)]
