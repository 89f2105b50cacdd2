/-! the reference's side: its program's rows, its machine's rows, and its looking methods -/
def ul (M : cs_Mem) (c : Nat) : List Int32 :=
  (if M 63 c < 0 then [] else [M 63 c]) ++ ((if 0 < M 65 c ∧ ¬ M 71 (2 * c) = 0 then [M 70 (2 * c)] else []) ++ (if 1 < M 65 c ∧ ¬ M 71 (2 * c + 1) = 0 then [M 70 (2 * c + 1)] else []))
def PRel (M : cs_Mem) : Prop :=
  M 62 0 = M 1 6 ∧
  (∀ c, c < 8 → M 68 c = M 2 c ∧ M 69 c = M 3 c ∧ M 64 c = M 4 c ∧ M 65 c = M 6 c ∧ (M 65 c = 0 ∨ M 65 c = 1 ∨ M 65 c = 2) ∧ M 67 c = nI (pgL M c - pgU M c) ∧ (∀ i, i < 2 → nI i < M 65 c → M 70 (2 * c + i) = M 5 (2 * c + i))) ∧
  (∀ c, pgN M ≤ c → c < 8 → M 3 c = 0 ∧ pgL M c = 0 ∧ M 65 c = 0) ∧
  (∀ c, c < pgN M → pgU M c = (ul M c).length ∧ (∀ p, p < pgU M c → pgX M c p = (ul M c).getD p 0 ∧ ∃ x, x < c ∧ pgX M c p = nI x) ∧ (¬ M 2 c = 0 → M 63 c = -1 ∧ M 65 c = 0)) ∧
  (∀ t, t < 3 → M 75 t = nI (pgL M (8 + t)) ∧ pgU M (8 + t) = 0) ∧
  (∀ f, f < 11 → ∀ i, pgU M f + i < pgL M f → pgA M f (pgU M f + i) = M 72 (5 * f + i) ∧ pgX M f (pgU M f + i) = M 73 (5 * f + i) ∧ (f < 8 → pgY M f (pgU M f + i) = M 74 (5 * f + i)))
/-- the reference's machine, but for row 84 -/
def EncB (S : Ms) (M : cs_Mem) : Prop :=
  (∀ c, c < 8 → M 78 c = nI (mSt S c)) ∧ (∀ c, c < 8 → M 79 (2 * c) = mS0 S c) ∧ (∀ c, c < 8 → M 79 (2 * c + 1) = M 64 c) ∧
  (∀ t, t < 3 → M 82 t = nI ((mSk S t).length + 1) ∧ M 80 (9 * t) = -1 ∧ M 81 (9 * t) = nI (mPr S (8 + t))) ∧
  (∀ t, t < 3 → ∀ c l1 l2, mSk S t = l1 ++ c :: l2 → M 80 (9 * t + (l2.length + 1)) = nI c ∧ M 81 (9 * t + (l2.length + 1)) = nI (mPr S c)) ∧
  (∀ t, t < 3 → M 83 t = if mSk S t = [] ∨ mFl S t = 0 then -1 else nI (mFl S t - 1)) ∧
  M 62 26 = nI (mLg S).length ∧ EncL S (M 85)
def EncM (S : Ms) (M : cs_Mem) : Prop := EncB S M ∧ ∀ t, t < 3 → M 84 t = if mEnd M S t = true then nI (mFl S t) else -1
theorem nI_mul (a b : Nat) : nI a * nI b = nI (a * b) := (Int32.ofNat_mul a b).symm
theorem nd_len : ∀ (n : Nat) (l : List Nat), l.Nodup → (∀ x, x ∈ l → x < n) → l.length ≤ n := by
  intro n
  induction n with
  | zero =>
    intro l _ h
    cases l with
    | nil => exact Nat.le_refl _
    | cons a l => have := h a (by simp); omega
  | succ n ih =>
    intro l hn h
    by_cases q : n ∈ l
    · have h1 := ih (l.erase n) (hn.erase n) (fun x hx => by
        have := (List.Nodup.mem_erase_iff hn).mp hx
        have := h x this.2
        omega)
      rw [List.length_erase_of_mem q] at h1
      omega
    · have := ih l hn (fun x hx => by
        have := h x hx
        have : x ≠ n := fun e => q (e ▸ hx)
        omega)
      omega
theorem sk_len {M : cs_Mem} {S : Ms} {t : Nat} (hI : InvS M S) (ht : t < 3) : (mSk S t).length ≤ 8 := nd_len 8 _ (hI.2.1 t ht).1 (sk_lt hI ht)
theorem m1lt0 : ((-1 : Int32) < 0) := by decide
theorem npos {a : Nat} (h : a < 1000000) : ¬ nI a < 0 := nI_pos (by omega)
theorem npos' {a : Nat} (h : a < 1000000) : 0 ≤ nI a := nI_pos' (by omega)
theorem m_top {M : cs_Mem} {S : Ms} {t : Nat} (hE : EncB S M) (ht : t < 3) : f_Mo_top M 62 (nI t) = nI (9 * t + (mSk S t).length) := by
  unfold f_Mo_top
  rw [nI_clamp (by omega), (hE.2.2.2.1 t ht).1, show (9 : Int32) = nI 9 from rfl, nI_mul, nI_add, ← Nat.add_assoc, nI_pred]
theorem mp_top {M : cs_Mem} {t : Nat} (ht : t < 3) : pre_Mo_top M 62 (nI t) := ⟨vp_in_nI (N := 3) ht (by omega), trivial⟩
theorem m_f80 {M : cs_Mem} {S : Ms} {t : Nat} (hE : EncB S M) (ht : t < 3) : M 80 (9 * t + (mSk S t).length) = if mSk S t = [] then -1 else nI (mTop S t) := by
  cases h : mSk S t with
  | nil => exact (hE.2.2.2.1 t ht).2.1
  | cons c l =>
    rw [if_neg (by simp)]
    have := (hE.2.2.2.2.1 t ht c [] l h).1
    unfold mTop
    rw [h]
    exact this
theorem m_f81 {M : cs_Mem} {S : Ms} {t : Nat} (hE : EncB S M) (ht : t < 3) : M 81 (9 * t + (mSk S t).length) = nI (mPr S (mTop S t)) := by
  unfold mTop
  cases h : mSk S t with
  | nil => exact (hE.2.2.2.1 t ht).2.2
  | cons c l => exact (hE.2.2.2.2.1 t ht c [] l h).2
theorem uses_S (n : Nat) (M : cs_Mem) (j : Nat) (y1 y2 y3 : Int32) : f_Mo_uses_L32 (n + 1) M j y1 y2 y3 = if (M 65 y1.toNatClampNeg) ≤ y3 then y2 else if (M 71 ((2 * y1) + y3).toNatClampNeg) = 0 then f_Mo_uses_L32 n M j y1 y2 (y3 + 1) else f_Mo_uses_L32 n M j y1 (y2 + 1) (y3 + 1) := by
  show (if _ then _ else if _ then cs_bd _ _ else cs_bd _ _) = _
  simp only [cs_bd_eq]
theorem puses_S (n : Nat) (M : cs_Mem) (j : Nat) (y1 y2 y3 : Int32) : pre_Mo_uses_L32 (n + 1) M j y1 y2 y3 ↔ vp_in y1 (cs_ln M 65) ∧ ((M 65 y1.toNatClampNeg) ≤ y3 → True) ∧ (¬ (M 65 y1.toNatClampNeg) ≤ y3 → vp_in ((2 * y1) + y3) (cs_ln M 71) ∧ ((M 71 ((2 * y1) + y3).toNatClampNeg) = 0 → pre_Mo_uses_L32 n M j y1 y2 (y3 + 1)) ∧ (¬ (M 71 ((2 * y1) + y3).toNatClampNeg) = 0 → pre_Mo_uses_L32 n M j y1 (y2 + 1) (y3 + 1))) := by
  show (vp_in y1 (cs_ln M 65) ∧ (_ → True) ∧ (_ → _ ∧ (_ → cs_bd _ _) ∧ (_ → cs_bd _ _))) ↔ _
  simp only [cs_bd_eq]
def dcnt (M : cs_Mem) (c m i : Nat) : Nat := if i < m ∧ ¬ M 71 (2 * c + i) = 0 then 1 else 0
theorem m_usesL {M : cs_Mem} {c m : Nat} (hc : c < 8) (h65 : M 65 c = nI m) (hm : m ≤ 2) : ∀ (n i a : Nat), 3 ≤ n + i → i ≤ 2 → f_Mo_uses_L32 (n + 1) M 62 (nI c) (nI a) (nI i) = nI (a + (if i = 0 then dcnt M c m 0 + dcnt M c m 1 else if i = 1 then dcnt M c m 1 else 0)) ∧ pre_Mo_uses_L32 (n + 1) M 62 (nI c) (nI a) (nI i) := by
  intro n
  induction n with
  | zero => intro i a h1 h2; omega
  | succ n ih =>
    intro i a h1 h2
    rw [uses_S, puses_S, nI_clamp (by omega), h65]
    have ix : (2 * nI c + nI i).toNatClampNeg = 2 * c + i := by
      rw [show (2 : Int32) = nI 2 from rfl, nI_mul, nI_add]
      exact nI_clamp (by omega)
    rw [ix]
    by_cases hmi : m ≤ i
    · rw [if_pos ((nle (by omega) (by omega)).mpr hmi)]
      refine ⟨?_, vp_in_nI (N := 8) hc (by omega), fun _ => trivial, fun q => absurd ((nle (by omega) (by omega)).mpr hmi) q⟩
      have z0 : ∀ k, i ≤ k → dcnt M c m k = 0 := fun k hk => by unfold dcnt; rw [if_neg (by omega)]
      rcases (show i = 0 ∨ i = 1 ∨ i = 2 by omega) with rfl | rfl | rfl
      · rw [if_pos rfl, z0 0 (by omega), z0 1 (by omega)]; rfl
      · rw [if_neg (by omega), if_pos rfl, z0 1 (by omega)]; rfl
      · rfl
    · rw [if_neg (fun q => hmi ((nle (by omega) (by omega)).mp q))]
      have hin : vp_in (2 * nI c + nI i) (cs_ln M 71) := by
        rw [show (2 : Int32) = nI 2 from rfl, nI_mul]
        exact inK (2 * c) i 16 (by omega) (by omega)
      rw [nI_1, nI_1]
      have r1 := ih (i + 1) a (by omega) (by omega)
      have r2 := ih (i + 1) (a + 1) (by omega) (by omega)
      by_cases hd : M 71 (2 * c + i) = 0
      · rw [if_pos hd]
        refine ⟨?_, vp_in_nI (N := 8) hc (by omega), fun _ => trivial, fun _ => ⟨hin, fun _ => r1.2, fun q => absurd hd q⟩⟩
        rw [r1.1]
        have z : dcnt M c m i = 0 := by unfold dcnt; rw [if_neg (fun q => q.2 hd)]
        rcases (show i = 0 ∨ i = 1 by omega) with rfl | rfl
        · rw [if_neg (by omega), if_pos rfl, if_pos rfl, z, Nat.zero_add]
        · rw [if_neg (by omega), if_neg (by omega), if_neg (by omega), if_pos rfl, z]
      · rw [if_neg hd]
        refine ⟨?_, vp_in_nI (N := 8) hc (by omega), fun _ => trivial, fun _ => ⟨hin, fun q => absurd q hd, fun _ => r2.2⟩⟩
        rw [r2.1]
        have z : dcnt M c m i = 1 := by unfold dcnt; rw [if_pos ⟨by omega, hd⟩]
        rcases (show i = 0 ∨ i = 1 by omega) with rfl | rfl
        · rw [if_neg (by omega), if_pos rfl, if_pos rfl, z, Nat.add_assoc]
        · rw [if_neg (by omega), if_neg (by omega), if_neg (by omega), if_pos rfl, z]
theorem prI {M : cs_Mem} (hP : PRel M) {c : Nat} (hc : c < 8) : ∃ m, m ≤ 2 ∧ M 65 c = nI m := by
  rcases (hP.2.1 c hc).2.2.2.2.1 with h | h | h
  · exact ⟨0, by omega, h⟩
  · exact ⟨1, by omega, h⟩
  · exact ⟨2, by omega, h⟩
theorem ul_len {M : cs_Mem} {c m : Nat} (h65 : M 65 c = nI m) (hm : m ≤ 2) : (ul M c).length = (if M 63 c < 0 then 0 else 1) + (dcnt M c m 0 + dcnt M c m 1) := by
  unfold ul dcnt
  rw [h65, List.length_append, List.length_append]
  have e0 : ((0 : Int32) < nI m) ↔ 0 < m := nlt (a := 0) (by omega) (by omega)
  have e1 : ((1 : Int32) < nI m) ↔ 1 < m := nlt (a := 1) (by omega) (by omega)
  simp only [e0, e1]
  have k1 : ∀ (P : Prop) [Decidable P] (x : Int32), (if P then [x] else []).length = if P then 1 else 0 := fun P _ x => by split <;> rfl
  have k2 : ∀ (P : Prop) [Decidable P] (x : Int32), (if P then [] else [x]).length = if P then 0 else 1 := fun P _ x => by split <;> rfl
  rw [k1, k1, k2]
  rfl
theorem m_uses {M : cs_Mem} {c : Nat} (hP : PRel M) (hW : WP M) (hc : c < pgN M) (h8 : c < 8) : f_Mo_uses M 62 (nI c) = nI (pgU M c) ∧ pre_Mo_uses M 62 (nI c) := by
  obtain ⟨m, hm, h65⟩ := prI hP h8
  have hU := (hP.2.2.2.1 c hc).1
  rw [ul_len h65 hm] at hU
  have hi := (hP.2.2.2.1 c hc).2.2
  have h68 := (hP.2.1 c h8).1
  unfold f_Mo_uses pre_Mo_uses
  rw [nI_clamp (by omega), if_neg (npos (by omega))]
  by_cases q : M 68 c = 0
  · rw [if_pos q]
    have r0 := m_usesL h8 h65 hm 9 0 0 (by omega) (by omega)
    have r1 := m_usesL h8 h65 hm 9 0 1 (by omega) (by omega)
    rw [if_pos rfl] at r0 r1
    by_cases g : M 63 c < 0
    · rw [if_pos g]
      rw [if_pos g] at hU
      refine ⟨by rw [hU]; exact r0.1, fun w => absurd w (npos (by omega)), fun _ => ⟨vp_in_nI (N := 8) h8 (by omega), fun _ => ⟨vp_in_nI (N := 8) h8 (by omega), fun _ => r0.2, fun w => absurd g w⟩, fun w => absurd q w⟩⟩
    · rw [if_neg g]
      rw [if_neg g] at hU
      refine ⟨by rw [hU]; exact r1.1, fun w => absurd w (npos (by omega)), fun _ => ⟨vp_in_nI (N := 8) h8 (by omega), fun _ => ⟨vp_in_nI (N := 8) h8 (by omega), fun w => absurd w g, fun _ => r1.2⟩, fun w => absurd q w⟩⟩
  · rw [if_neg q]
    rw [h68] at q
    have hi := hi q
    have hm0 : m = 0 := by
      rw [h65] at hi
      exact (nI0 (by omega)).mp hi.2
    subst hm0
    rw [hi.1, if_pos m1lt0] at hU
    refine ⟨?_, fun w => absurd w (npos (by omega)), fun _ => ⟨vp_in_nI (N := 8) h8 (by omega), fun w => absurd w (by rw [h68]; exact q), fun _ => trivial⟩⟩
    rw [hU]
    rfl
theorem uat_S (n : Nat) (M : cs_Mem) (j : Nat) (y1 y3 y4 : Int32) : f_Mo_useAt_L28 (n + 1) M j y1 y3 y4 = if (M 65 y1.toNatClampNeg) ≤ y4 then (-1) else if (M 71 ((2 * y1) + y4).toNatClampNeg) = 0 then f_Mo_useAt_L28 n M j y1 y3 (y4 + 1) else if y3 = 0 then M 70 ((2 * y1) + y4).toNatClampNeg else f_Mo_useAt_L28 n M j y1 (y3 + (-1)) (y4 + 1) := by
  show (if _ then _ else if _ then cs_bd _ _ else if _ then _ else cs_bd _ _) = _
  simp only [cs_bd_eq]
theorem puat_S (n : Nat) (M : cs_Mem) (j : Nat) (y1 y3 y4 : Int32) : pre_Mo_useAt_L28 (n + 1) M j y1 y3 y4 ↔ vp_in y1 (cs_ln M 65) ∧ ((M 65 y1.toNatClampNeg) ≤ y4 → True) ∧ (¬ (M 65 y1.toNatClampNeg) ≤ y4 → vp_in ((2 * y1) + y4) (cs_ln M 71) ∧ ((M 71 ((2 * y1) + y4).toNatClampNeg) = 0 → pre_Mo_useAt_L28 n M j y1 y3 (y4 + 1)) ∧ (¬ (M 71 ((2 * y1) + y4).toNatClampNeg) = 0 → (y3 = 0 → vp_in ((2 * y1) + y4) (cs_ln M 70) ∧ True) ∧ (¬ y3 = 0 → pre_Mo_useAt_L28 n M j y1 (y3 + (-1)) (y4 + 1)))) := by
  show (vp_in y1 (cs_ln M 65) ∧ (_ → True) ∧ (_ → _ ∧ (_ → cs_bd _ _) ∧ (_ → (_ → _) ∧ (_ → cs_bd _ _)))) ↔ _
  simp only [cs_bd_eq]
/-- the interfaces that are used ahead from the i-th on -/
def il (M : cs_Mem) (c m i : Nat) : List Int32 := if i < m ∧ ¬ M 71 (2 * c + i) = 0 then [M 70 (2 * c + i)] else []
theorem nI_m1' (p : Nat) : nI (p + 1) + (-1) = nI p := by
  have : nI (p + 1) + (-1) = nI (p + 1) - 1 := by rw [Int32.sub_eq_add_neg]
  rw [this, nI_pred]
theorem m_uatL {M : cs_Mem} {c m : Nat} (hc : c < 8) (h65 : M 65 c = nI m) (hm : m ≤ 2) : ∀ (n i p : Nat), 3 ≤ n + i → i ≤ 2 → p < 100 → (p < (if i = 0 then il M c m 0 ++ il M c m 1 else if i = 1 then il M c m 1 else []).length → f_Mo_useAt_L28 (n + 1) M 62 (nI c) (nI p) (nI i) = (if i = 0 then il M c m 0 ++ il M c m 1 else if i = 1 then il M c m 1 else []).getD p 0) ∧ pre_Mo_useAt_L28 (n + 1) M 62 (nI c) (nI p) (nI i) := by
  intro n
  induction n with
  | zero => intro i a h1 h2; omega
  | succ n ih =>
    intro i p h1 h2 hp
    rw [uat_S, puat_S, nI_clamp (by omega), h65]
    have ix : (2 * nI c + nI i).toNatClampNeg = 2 * c + i := by
      rw [show (2 : Int32) = nI 2 from rfl, nI_mul, nI_add]
      exact nI_clamp (by omega)
    rw [ix]
    by_cases hmi : m ≤ i
    · rw [if_pos ((nle (by omega) (by omega)).mpr hmi)]
      refine ⟨?_, vp_in_nI (N := 8) hc (by omega), fun _ => trivial, fun q => absurd ((nle (by omega) (by omega)).mpr hmi) q⟩
      have z0 : ∀ k, i ≤ k → il M c m k = [] := fun k hk => by unfold il; rw [if_neg (by omega)]
      rcases (show i = 0 ∨ i = 1 ∨ i = 2 by omega) with rfl | rfl | rfl
      · rw [if_pos rfl, z0 0 (by omega), z0 1 (by omega)]; intro q; simp at q
      · rw [if_neg (by omega), if_pos rfl, z0 1 (by omega)]; intro q; simp at q
      · intro q; simp at q
    · rw [if_neg (fun q => hmi ((nle (by omega) (by omega)).mp q))]
      have hin : vp_in (2 * nI c + nI i) (cs_ln M 71) := by
        rw [show (2 : Int32) = nI 2 from rfl, nI_mul]
        exact inK (2 * c) i 16 (by omega) (by omega)
      have hin2 : vp_in (2 * nI c + nI i) (cs_ln M 70) := by
        rw [show (2 : Int32) = nI 2 from rfl, nI_mul]
        exact inK (2 * c) i 16 (by omega) (by omega)
      rw [nI_1]
      have r1 := ih (i + 1) p (by omega) (by omega) hp
      by_cases hd : M 71 (2 * c + i) = 0
      · rw [if_pos hd]
        refine ⟨?_, vp_in_nI (N := 8) hc (by omega), fun _ => trivial, fun _ => ⟨hin, fun _ => r1.2, fun q => absurd hd q⟩⟩
        have z : il M c m i = [] := by unfold il; rw [if_neg (fun q => q.2 hd)]
        have r1 := r1.1
        rcases (show i = 0 ∨ i = 1 by omega) with rfl | rfl
        · rw [if_neg (by omega), if_pos rfl] at r1
          rw [if_pos rfl, z, List.nil_append]
          exact r1
        · rw [if_neg (by omega), if_pos rfl, z]
          intro q
          simp at q
      · rw [if_neg hd]
        have z : il M c m i = [M 70 (2 * c + i)] := by unfold il; rw [if_pos ⟨by omega, hd⟩]
        cases p with
        | zero =>
          rw [if_pos (show nI 0 = 0 from rfl)]
          refine ⟨fun _ => ?_, vp_in_nI (N := 8) hc (by omega), fun _ => trivial, fun _ => ⟨hin, fun q => absurd q hd, fun _ => ⟨fun _ => ⟨hin2, trivial⟩, fun q => absurd rfl q⟩⟩⟩
          rcases (show i = 0 ∨ i = 1 by omega) with rfl | rfl
          · rw [if_pos rfl, z]; rfl
          · rw [if_neg (by omega), if_pos rfl, z]; rfl
        | succ p =>
          rw [if_neg (fun q => absurd ((nI0 (by omega)).mp q) (by omega)), nI_m1']
          have r2 := ih (i + 1) p (by omega) (by omega) (by omega)
          refine ⟨?_, vp_in_nI (N := 8) hc (by omega), fun _ => trivial, fun _ => ⟨hin, fun q => absurd q hd, fun _ => ⟨fun q => absurd ((nI0 (by omega)).mp q) (by omega), fun _ => r2.2⟩⟩⟩
          have r2 := r2.1
          rcases (show i = 0 ∨ i = 1 by omega) with rfl | rfl
          · rw [if_neg (by omega), if_pos rfl] at r2
            rw [if_pos rfl, z]
            intro q
            rw [r2 (by simp at q; omega)]
            rfl
          · rw [if_neg (by omega), if_pos rfl, z]
            intro q
            simp at q
theorem ul_il {M : cs_Mem} {c m : Nat} (h65 : M 65 c = nI m) (hm : m ≤ 2) : ul M c = (if M 63 c < 0 then [] else [M 63 c]) ++ (il M c m 0 ++ il M c m 1) := by
  unfold ul il
  rw [h65]
  have e0 : ((0 : Int32) < nI m) ↔ 0 < m := nlt (a := 0) (by omega) (by omega)
  have e1 : ((1 : Int32) < nI m) ↔ 1 < m := nlt (a := 1) (by omega) (by omega)
  simp only [e0, e1]
  rfl
theorem m_uat {M : cs_Mem} {c p : Nat} (hP : PRel M) (hc : c < pgN M) (h8 : c < 8) (hp : p < pgU M c) (h3 : p < 50) : f_Mo_useAt M 62 (nI c) (nI p) = pgX M c p ∧ pre_Mo_useAt M 62 (nI c) (nI p) := by
  obtain ⟨m, hm, h65⟩ := prI hP h8
  have hU := hP.2.2.2.1 c hc
  rw [(hU.2.1 p hp).1]
  have hl := hU.1
  rw [ul_il h65 hm] at hl ⊢
  rw [hl] at hp
  unfold f_Mo_useAt pre_Mo_useAt f_Mo_useAt_J25 pre_Mo_useAt_J25
  simp only [cs_bd_eq]
  rw [nI_clamp (by omega)]
  have r0 := m_uatL h8 h65 hm 9 0 p (by omega) (by omega) (by omega)
  rw [if_pos rfl] at r0
  by_cases g : M 63 c < 0
  · rw [if_pos g] at hp ⊢
    rw [if_pos g, List.nil_append]
    rw [List.nil_append] at hp
    exact ⟨r0.1 hp, vp_in_nI (N := 8) h8 (by omega), fun _ => r0.2, fun w => absurd g w⟩
  · rw [if_neg g] at hp ⊢
    rw [if_neg g]
    cases p with
    | zero =>
      rw [if_pos (show nI 0 = 0 from rfl)]
      exact ⟨rfl, vp_in_nI (N := 8) h8 (by omega), fun w => absurd w g, fun _ => ⟨fun _ => ⟨vp_in_nI (N := 8) h8 (by omega), trivial⟩, fun w => absurd rfl w⟩⟩
    | succ p =>
      have r1 := m_uatL h8 h65 hm 9 0 p (by omega) (by omega) (by omega)
      rw [if_pos rfl] at r1
      rw [if_neg (fun q => absurd ((nI0 (by omega)).mp q) (by omega)), nI_m1']
      refine ⟨?_, vp_in_nI (N := 8) h8 (by omega), fun w => absurd w g, fun _ => ⟨fun w => absurd ((nI0 (by omega)).mp w) (by omega), fun _ => r1.2⟩⟩
      refine (r1.1 (by simp at hp ⊢; omega)).trans ?_
      rfl
