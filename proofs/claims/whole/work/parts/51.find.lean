/-! the class's explorer: restart and find -/
theorem fill_S (n : Nat) (M : cs_Mem) (y0 : Nat) (y1 y2 y3 : Int32) : f_Ar_fill_L5 (n + 1) M y0 y1 y2 y3 = if y3 ≤ y2 then M else f_Ar_fill_L5 n (cs_up M y0 (upd (M y0) y2.toNatClampNeg y1)) y0 y1 (y2 + 1) y3 := by
  show (if _ then _ else cs_bd _ fun _ => cs_bd _ _) = _
  simp only [cs_bd_eq]
theorem pfill_S (n : Nat) (M : cs_Mem) (y0 : Nat) (y1 y2 y3 : Int32) : pre_Ar_fill_L5 (n + 1) M y0 y1 y2 y3 ↔ (y3 ≤ y2 → True) ∧ (¬ y3 ≤ y2 → vp_in y2 (cs_ln M y0) ∧ pre_Ar_fill_L5 n (cs_up M y0 (upd (M y0) y2.toNatClampNeg y1)) y0 y1 (y2 + 1) y3) := by
  show ((_ → True) ∧ (_ → _ ∧ cs_bd _ fun _ => cs_bd _ _)) ↔ _
  simp only [cs_bd_eq]
theorem c_fillL {j : Nat} (hj : j = 52 ∨ j = 56) : ∀ (n i : Nat) (M : cs_Mem), 43 ≤ n + i → i ≤ 43 → (∀ k, k < i → M (j + 1) k = 0) → pre_Ar_fill_L5 (n + 1) M (j + 1) 0 (nI i) (nI 43) ∧ ∀ k, k < 43 → f_Ar_fill_L5 (n + 1) M (j + 1) 0 (nI i) (nI 43) (j + 1) k = 0 := by
  intro n
  induction n with
  | zero =>
    intro i M h1 h2 h
    have : i = 43 := by omega
    subst this
    rw [pfill_S, fill_S, if_pos (show nI 43 ≤ nI 43 by decide)]
    exact ⟨⟨fun _ => trivial, fun q => absurd (show nI 43 ≤ nI 43 by decide) q⟩, h⟩
  | succ n ih =>
    intro i M h1 h2 h
    rw [pfill_S, fill_S]
    by_cases q : i = 43
    · subst q
      rw [if_pos (show nI 43 ≤ nI 43 by decide)]
      exact ⟨⟨fun _ => trivial, fun q => absurd (show nI 43 ≤ nI 43 by decide) q⟩, h⟩
    · have c : ¬ nI 43 ≤ nI i := fun w => absurd ((nle (by omega) (by omega)).mp w) (by omega)
      rw [if_neg c, nI_clamp (by omega), nI_1]
      have r := ih (i + 1) (cs_up M (j + 1) (upd (M (j + 1)) i 0)) (by omega) (by omega) (fun k hk => by
        rw [cs_up_self]
        by_cases w : k = i
        · rw [w, up_s]
        · rw [up_n w]; exact h k (by omega))
      exact ⟨⟨fun _ => trivial, fun _ => ⟨by rw [hcl hj]; exact vp_in_nI (by omega) (by omega), r.1⟩⟩, r.2⟩
theorem rst_S (n : Nat) (M : cs_Mem) (j : Nat) (y1 : Int32) : f_Ma_restart_L10 (n + 1) M j y1 = if 3 ≤ y1 then M else f_Ma_restart_L10 n (cs_up M (j + 1) (upd (M (j + 1)) (35 + y1).toNatClampNeg (8 + y1))) j (y1 + 1) := by
  show (if _ then _ else cs_bd _ fun _ => cs_bd _ _) = _
  simp only [cs_bd_eq]
theorem prst_S (n : Nat) (M : cs_Mem) (j : Nat) (y1 : Int32) : pre_Ma_restart_L10 (n + 1) M j y1 ↔ (3 ≤ y1 → True) ∧ (¬ 3 ≤ y1 → vp_in (35 + y1) (cs_ln M (j + 1)) ∧ pre_Ma_restart_L10 n (cs_up M (j + 1) (upd (M (j + 1)) (35 + y1).toNatClampNeg (8 + y1))) j (y1 + 1)) := by
  show ((_ → True) ∧ (_ → _ ∧ cs_bd _ fun _ => cs_bd _ _)) ↔ _
  simp only [cs_bd_eq]
def rz (i k : Nat) : Int32 := if 35 ≤ k ∧ k < 35 + i then nI (8 + (k - 35)) else 0
theorem c_rstL {j : Nat} (hj : j = 52 ∨ j = 56) : ∀ (n i : Nat) (M : cs_Mem), 3 ≤ n + i → i ≤ 3 → (∀ k, k < 43 → M (j + 1) k = rz i k) → pre_Ma_restart_L10 (n + 1) M j (nI i) ∧ ∀ k, k < 43 → f_Ma_restart_L10 (n + 1) M j (nI i) (j + 1) k = rz 3 k := by
  intro n
  induction n with
  | zero =>
    intro i M h1 h2 h
    have : i = 3 := by omega
    subst this
    rw [prst_S, rst_S, if_pos (show 3 ≤ nI 3 by decide)]
    exact ⟨⟨fun _ => trivial, fun q => absurd (show 3 ≤ nI 3 by decide) q⟩, h⟩
  | succ n ih =>
    intro i M h1 h2 h
    rw [prst_S, rst_S]
    by_cases q : i = 3
    · subst q
      rw [if_pos (show 3 ≤ nI 3 by decide)]
      exact ⟨⟨fun _ => trivial, fun q => absurd (show 3 ≤ nI 3 by decide) q⟩, h⟩
    · have c : ¬ 3 ≤ nI i := fun w => absurd ((nle (a := 3) (by omega) (by omega)).mp w) (by omega)
      have e8 : (8 : Int32) + nI i = nI (8 + i) := by rw [show (8 : Int32) = nI 8 from rfl, nI_add]
      rw [if_neg c, ix35 (by omega), nI_1, e8]
      have r := ih (i + 1) (cs_up M (j + 1) (upd (M (j + 1)) (35 + i) (nI (8 + i)))) (by omega) (by omega) (fun k hk => by
        rw [cs_up_self]
        by_cases w : k = 35 + i
        · rw [w, up_s]
          unfold rz
          rw [if_pos (by omega)]
          exact congrArg nI (by omega)
        · rw [up_n w, h k hk]
          unfold rz
          by_cases v : 35 ≤ k ∧ k < 35 + i
          · rw [if_pos v, if_pos (by omega)]
          · rw [if_neg v, if_neg (by omega)])
      exact ⟨⟨fun _ => trivial, fun _ => ⟨by rw [hcl hj]; exact inK 35 i 43 (by omega) (by omega), r.1⟩⟩, r.2⟩
theorem c_restart {M : cs_Mem} {j : Nat} (hj : j = 52 ∨ j = 56) : pre_Ma_restart M j ∧ EncC msZ 0 (f_Ma_restart M j (j + 1)) := by
  have f := c_fillL hj 43 0 M (by omega) (by omega) (fun k hk => by omega)
  have r := c_rstL hj 4 0 (f_Ar_fill_L5 44 M (j + 1) 0 (nI 0) (nI 43)) (by omega) (by omega) (fun k hk => by
    rw [f.2 k hk]
    unfold rz
    rw [if_neg (by omega)])
  have e : f_Ma_restart M j = f_Ma_restart_L10 5 (f_Ar_fill_L5 44 M (j + 1) 0 (nI 0) (nI 43)) j (nI 0) := by
    unfold f_Ma_restart f_Ar_fill
    simp only [cs_bd_eq]
    rw [hcl hj]
    rfl
  have pe : pre_Ma_restart M j ↔ pre_Ar_fill_L5 44 M (j + 1) 0 (nI 0) (nI 43) ∧ pre_Ma_restart_L10 5 (f_Ar_fill_L5 44 M (j + 1) 0 (nI 0) (nI 43)) j (nI 0) := by
    unfold pre_Ma_restart f_Ar_fill pre_Ar_fill
    simp only [cs_bd_eq]
    rw [hcl hj]
    exact Iff.rfl
  refine ⟨pe.mpr ⟨f.1, r.1⟩, ?_⟩
  rw [e]
  have z : ∀ k, k < 43 → (k < 35 ∨ 38 ≤ k) → f_Ma_restart_L10 5 (f_Ar_fill_L5 44 M (j + 1) 0 (nI 0) (nI 43)) j (nI 0) (j + 1) k = 0 := fun k h1 h2 => by
    rw [r.2 k h1]
    unfold rz
    rw [if_neg (by omega)]
  refine ⟨fun c hc => z c (by omega) (by omega), fun c hc => z (8 + c) (by omega) (by omega), fun f hf => z (24 + f) (by omega) (by omega), fun t ht => ?_, fun t ht => z (38 + t) (by omega) (by omega), fun t ht c l1 l2 _ q => ?_, z 41 (by omega) (by omega), z 42 (by omega) (by omega)⟩
  · rw [r.2 (35 + t) (by omega)]
    unfold rz
    rw [if_pos (by omega)]
    show _ = nI (8 + t)
    exact congrArg nI (by omega)
  · have : ([] : List Nat) = l1 ++ c :: l2 := q
    simp at this
def fput1 (N : cs_Mem) (y1 y2 : Int32) : cs_Mem := cs_up (cs_up (cs_up N 61 (va_cpy (N 61) (N 61) y2.toNatClampNeg (y2 + 1).toNatClampNeg ((N 55 4) - y2).toNatClampNeg)) 61 (upd (cs_up N 61 (va_cpy (N 61) (N 61) y2.toNatClampNeg (y2 + 1).toNatClampNeg ((N 55 4) - y2).toNatClampNeg) 61) y2.toNatClampNeg y1)) 55 (upd (cs_up (cs_up N 61 (va_cpy (N 61) (N 61) y2.toNatClampNeg (y2 + 1).toNatClampNeg ((N 55 4) - y2).toNatClampNeg)) 61 (upd (cs_up N 61 (va_cpy (N 61) (N 61) y2.toNatClampNeg (y2 + 1).toNatClampNeg ((N 55 4) - y2).toNatClampNeg) 61) y2.toNatClampNeg y1) 55) 4 ((cs_up (cs_up N 61 (va_cpy (N 61) (N 61) y2.toNatClampNeg (y2 + 1).toNatClampNeg ((N 55 4) - y2).toNatClampNeg)) 61 (upd (cs_up N 61 (va_cpy (N 61) (N 61) y2.toNatClampNeg (y2 + 1).toNatClampNeg ((N 55 4) - y2).toNatClampNeg) 61) y2.toNatClampNeg y1) 55 4) + 1))
def fpre1 (N : cs_Mem) (y2 : Int32) : Prop := (¬ y2 < 0) ∧ (¬ (y2 + 1) < 0) ∧ (¬ ((N 55 4) - y2) < 0) ∧ (y2.toNatClampNeg + ((N 55 4) - y2).toNatClampNeg ≤ cs_ln N 61) ∧ ((y2 + 1).toNatClampNeg + ((N 55 4) - y2).toNatClampNeg ≤ cs_ln N 61) ∧ (vp_in y2 (cs_ln (cs_up N 61 (va_cpy (N 61) (N 61) y2.toNatClampNeg (y2 + 1).toNatClampNeg ((N 55 4) - y2).toNatClampNeg)) 61)) ∧ True
def fput (M : cs_Mem) (y1 y2 : Int32) : cs_Mem := if (M 55 4) < (nI (cs_ln M 61)) then fput1 M y1 y2 else fput1 (cs_grow M (2 * cs_ln M 61)) y1 y2
def fpre (M : cs_Mem) (y2 : Int32) : Prop := ((M 55 4) < (nI (cs_ln M 61)) → fpre1 M y2) ∧ (¬ (M 55 4) < (nI (cs_ln M 61)) → (cs_ln M 61 ≤ 50000000) ∧ (0 < cs_ln M 61) ∧ fpre1 (cs_grow M (2 * cs_ln M 61)) y2)
theorem find_S (n : Nat) (M : cs_Mem) (y1 y2 : Int32) : f_Ex_find_L5 (n + 1) M y1 y2 = if y2 ≤ 0 then fput M y1 y2 else if (M 61 (y2 - 1).toNatClampNeg) ≤ y1 then (if (M 61 (y2 - 1).toNatClampNeg) = y1 then M else fput M y1 y2) else f_Ex_find_L5 n M y1 (y2 + (-1)) := by
  rw [f_Ex_find_L5]
  simp only [cs_bd_eq]
  by_cases h : y2 ≤ 0
  · rw [if_pos h, if_pos h, if_pos h]
    rfl
  · rw [if_neg h, if_neg h, if_neg h]
    by_cases g : (M 61 (y2 - 1).toNatClampNeg) ≤ y1
    · rw [if_pos g, if_pos g]
      by_cases w : (M 61 (y2 - 1).toNatClampNeg) = y1
      · rw [if_pos w, if_pos w]
      · rw [if_neg w, if_neg w]
        rfl
    · rw [if_neg g, if_neg g]
theorem pfind_S (n : Nat) (M : cs_Mem) (y1 y2 : Int32) (h1 : y2 ≤ 0 → fpre M y2) (h2 : ¬ y2 ≤ 0 → vp_in (y2 - 1) (cs_ln M 61) ∧ ((M 61 (y2 - 1).toNatClampNeg) ≤ y1 → ¬ (M 61 (y2 - 1).toNatClampNeg) = y1 → fpre M y2) ∧ (¬ (M 61 (y2 - 1).toNatClampNeg) ≤ y1 → pre_Ex_find_L5 n M y1 (y2 + (-1)))) : pre_Ex_find_L5 (n + 1) M y1 y2 := by
  rw [pre_Ex_find_L5]
  simp only [cs_bd_eq]
  exact ⟨fun q => ⟨fun _ => h1 q, fun w => absurd q w⟩, fun q => ⟨(h2 q).1, fun g => ⟨fun w => absurd w q, fun _ => ⟨(h2 q).1, fun _ => trivial, fun w => (h2 q).2.1 g w⟩⟩, fun g => (h2 q).2.2 g⟩⟩
