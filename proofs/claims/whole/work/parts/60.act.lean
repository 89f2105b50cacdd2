/-! act and plan -/
def Chg (M N : cs_Mem) : Prop := WP N ∧ PRel N ∧ (∀ i, 52 ≤ i → i ≠ 55 → i ≠ 62 → (i < 63 ∨ 75 < i) → N i = M i) ∧ N 55 = upd (upd (M 55) 4 0) 8 0 ∧ N 62 31 = 0 ∧ ∀ q, q ≠ 0 → q ≠ 31 → N 62 q = M 62 q
def Two (M : cs_Mem) (c : Int32 × cs_Mem) (m : cs_Mem → Int32 × cs_Mem) (pm : cs_Mem → Prop) : Prop :=
  ((c.1 = -1 ∨ c.1 = -2) ∧ c.2 = M ∧ pm M ∧ m M = (c.1, M)) ∨ (¬ c.1 = -1 ∧ ¬ c.1 = -2 ∧ pm (f_Ex_forget c.2 55) ∧ (m (f_Ex_forget c.2 55)).1 = c.1 ∧ Chg M (m (f_Ex_forget c.2 55)).2)
theorem fg55 (M : cs_Mem) : f_Ex_forget M 55 55 = upd (upd (M 55) 4 0) 8 0 := by
  unfold f_Ex_forget
  simp only [cs_bd_eq]
  rw [cs_up_self, cs_up_self]
theorem nI_m2 {a : Nat} (h : a < 1000000) : ¬ nI a = (-2 : Int32) := by
  intro q
  have := npos h
  rw [q] at this
  exact this (by decide)
theorem two_x {M : cs_Mem} {c : Int32 × cs_Mem} {m : cs_Mem → Int32 × cs_Mem} {pm : cs_Mem → Prop} (h : Two M c m pm) : pm (f_X_changed c.2 0 c.1).2 ∧ (f_X_changed c.2 0 c.1).1 = (m (f_X_changed c.2 0 c.1).2).1 ∧ ((m (f_X_changed c.2 0 c.1).2).2 = M ∨ Chg M (m (f_X_changed c.2 0 c.1).2).2) := by
  unfold f_X_changed
  simp only [cs_bd_eq]
  rcases h with ⟨h1, h2, h3, h4⟩ | ⟨h1, h2, h3, h4, h5⟩
  · rw [h2]
    rcases h1 with q | q
    · rw [q, if_pos rfl]
      rw [q] at h4
      dsimp only
      rw [h4]
      exact ⟨h3, rfl, Or.inl rfl⟩
    · rw [q, if_neg (by decide), if_pos rfl]
      rw [q] at h4
      dsimp only
      rw [h4]
      exact ⟨h3, rfl, Or.inl rfl⟩
  · rw [if_neg h1, if_neg h2]
    exact ⟨h3, h4.symm, Or.inr h5⟩
def aW (F : cs_Mem) (k n : Nat) (v x y : Int32) : cs_Mem :=
  cs_up (cs_up (cs_up (cs_up (cs_up F 72 (upd (F 72) k v)) 73 (upd ((cs_up F 72 (upd (F 72) k v)) 73) k x)) 74 (upd ((cs_up (cs_up F 72 (upd (F 72) k v)) 73 (upd ((cs_up F 72 (upd (F 72) k v)) 73) k x)) 74) k y)) 67 (upd ((cs_up (cs_up (cs_up F 72 (upd (F 72) k v)) 73 (upd ((cs_up F 72 (upd (F 72) k v)) 73) k x)) 74 (upd ((cs_up (cs_up F 72 (upd (F 72) k v)) 73 (upd ((cs_up F 72 (upd (F 72) k v)) 73) k x)) 74) k y)) 67) n ((cs_up (cs_up (cs_up F 72 (upd (F 72) k v)) 73 (upd ((cs_up F 72 (upd (F 72) k v)) 73) k x)) 74 (upd ((cs_up (cs_up F 72 (upd (F 72) k v)) 73 (upd ((cs_up F 72 (upd (F 72) k v)) 73) k x)) 74) k y)) 67 n + 1))) 62 (upd ((cs_up (cs_up (cs_up (cs_up F 72 (upd (F 72) k v)) 73 (upd ((cs_up F 72 (upd (F 72) k v)) 73) k x)) 74 (upd ((cs_up (cs_up F 72 (upd (F 72) k v)) 73 (upd ((cs_up F 72 (upd (F 72) k v)) 73) k x)) 74) k y)) 67 (upd ((cs_up (cs_up (cs_up F 72 (upd (F 72) k v)) 73 (upd ((cs_up F 72 (upd (F 72) k v)) 73) k x)) 74 (upd ((cs_up (cs_up F 72 (upd (F 72) k v)) 73 (upd ((cs_up F 72 (upd (F 72) k v)) 73) k x)) 74) k y)) 67) n ((cs_up (cs_up (cs_up F 72 (upd (F 72) k v)) 73 (upd ((cs_up F 72 (upd (F 72) k v)) 73) k x)) 74 (upd ((cs_up (cs_up F 72 (upd (F 72) k v)) 73 (upd ((cs_up F 72 (upd (F 72) k v)) 73) k x)) 74) k y)) 67 n + 1))) 62) 31 0)
theorem aW_r (F : cs_Mem) (k n : Nat) (v x y : Int32) : aW F k n v x y 72 = upd (F 72) k v ∧ aW F k n v x y 73 = upd (F 73) k x ∧ aW F k n v x y 74 = upd (F 74) k y ∧ aW F k n v x y 67 = upd (F 67) n (F 67 n + 1) ∧ aW F k n v x y 62 = upd (F 62) 31 0 ∧ ∀ i, i ≠ 72 → i ≠ 73 → i ≠ 74 → i ≠ 67 → i ≠ 62 → aW F k n v x y i = F i := by
  unfold aW
  simp [cs_up]
  intro i h1 h2 h3 h4 h5
  rw [if_neg h5, if_neg h4, if_neg h3, if_neg h2, if_neg h1]
theorem two_act {M : cs_Mem} (hW : WP M) (hP : PRel M) (h16 : M 62 16 = 0) (a0 a1 a2 a3 : Int32) : pre_Pr_addAction M 1 a0 a1 a2 a3 ∧ Two M (f_Pr_addAction M 1 a0 a1 a2 a3) (fun N => f_Mo_act N 62 a0 a1 a2 a3) (fun N => pre_Mo_act N 62 a0 a1 a2 a3) := by
  have e0 : M 62 0 = nI (pgN M) := hP.1.trans (wpN hW).1
  have hn8 := (wpN hW).2
  unfold pre_Pr_addAction f_Pr_addAction
  simp only [cs_bd_eq]
  rcases decl_out M hW a0 with ⟨d1, d2, n, hn, rfl⟩ | ⟨d1, d2, -⟩
  · rw [d1, if_neg (by decide), nI_clamp (by omega)]
    rcases act_dec M M a1 a2 a3 with ⟨k1, k2, k3, a, rfl, ha⟩ | ⟨k1, k2⟩
    · rw [k1, if_neg (by decide)]
      have al := c_addLast (a := nI a) (x := a2) (y := a3) hW (show n < 11 by omega) (fun q => by omega)
      refine ⟨⟨fun q => absurd q (by decide), fun _ => ⟨act_p _ _ _ _, fun q => absurd q (by decide), fun _ => ⟨vp_in_nI (by omega) (by omega), al.1, trivial⟩⟩⟩, ?_⟩
      obtain ⟨l1, l2, l3, l4, l5, l6⟩ := wpLU hW (show n < 11 by omega)
      have e67 := (hP.2.1 n (by omega)).2.2.2.2.2.1
      rw [if_pos (show n < 8 by omega)] at l5 l6 al
      rcases al.2 with ⟨c1, c2, c3⟩ | ⟨c1, c2⟩
      · right
        generalize f_Sc_addLast M (8 + 4 * n) (nI a) a2 a3 = u at c2 c3 ⊢
        obtain ⟨u1, u2⟩ := u
        dsimp only at c2 c3 ⊢
        subst c2
        obtain ⟨F, hF⟩ : ∃ F, f_Ex_forget u2 55 = F := ⟨_, rfl⟩
        have f55 : F 55 = upd (upd (M 55) 4 0) 8 0 := by rw [← hF, fg55, c3.2.2.2.2 55 (by omega)]
        have fu : ∀ i, i ≠ 55 → F i = u2 i := fun i hi => by rw [← hF]; exact fr_Ex_forget hi
        have fi : ∀ i, 52 ≤ i → i ≠ 55 → F i = M i := fun i h1 h2 => by rw [fu i h2, c3.2.2.2.2 i (by omega)]
        have ez : (5 : Int32) * nI n + nI (pgL M n - pgU M n) = nI (5 * n + (pgL M n - pgU M n)) := by rw [show (5 : Int32) = nI 5 from rfl, nI_mul, nI_add]
        have n5 : ¬ nI (pgL M n - pgU M n) = 5 := fun q => absurd ((neq (b := 5) (by omega) (by omega)).mp q) (by omega)
        have d2F : f_Mo_out F (nI n) (nI (pgN M)) = 0 := d2
        have k2F : f_Mo_out F (nI a) 7 = 0 := k2
        have k3F : f_Mo_badOperands F (nI a) a2 a3 = 0 := k3
        have i72 : vp_in (nI (5 * n + (pgL M n - pgU M n))) 55 := vp_in_nI (by omega) (by omega)
        have i8 : vp_in (nI n) 8 := vp_in_nI (by omega) (by omega)
        rw [hF]
        unfold pre_Mo_act f_Mo_act
        simp only [cs_bd_eq]
        rw [fi 62 (by omega) (by omega), h16, e0, d2F, k2F, k3F, nI_clamp (by omega), fi 67 (by omega) (by omega), e67, if_pos rfl, if_pos rfl, if_pos rfl, if_pos rfl, if_neg n5, ez, nI_clamp (by omega)]
        refine ⟨nI_m1 (by omega), nI_m2 (by omega), ⟨fun _ => ⟨fun _ => ⟨fun _ => ⟨bad_p _ _ _ _, fun _ => ⟨i8, fun q => absurd q n5, fun _ => ⟨i72, i72, i72, i8, i8, trivial⟩⟩, fun q => absurd rfl q⟩, fun q => absurd rfl q⟩, fun q => absurd rfl q⟩, fun q => absurd rfl q⟩, ?_, ?_⟩
        · dsimp only
          rw [nI_1]
        · dsimp only
          show Chg M (aW F (5 * n + (pgL M n - pgU M n)) n (nI a) a2 a3)
          obtain ⟨w72, w73, w74, w67, w62, wi⟩ := aW_r F (5 * n + (pgL M n - pgU M n)) n (nI a) a2 a3
          generalize aW F (5 * n + (pgL M n - pgU M n)) n (nI a) a2 a3 = O at w72 w73 w74 w67 w62 wi
          have ap : AppP M O n (pgL M n) (nI a) a2 a3 := c3.p (by omega) (fun i hi => by rw [wi i (by omega) (by omega) (by omega) (by omega) (by omega), fu i (by omega)])
          obtain ⟨g1, g2, -⟩ := ap.f (by omega)
          rw [fi 72 (by omega) (by omega)] at w72
          rw [fi 73 (by omega) (by omega)] at w73
          rw [fi 74 (by omega) (by omega)] at w74
          rw [fi 67 (by omega) (by omega)] at w67
          rw [fi 62 (by omega) (by omega)] at w62
          refine ⟨wp_app hW (by omega) ap ha (fun q => by omega) (by rw [if_pos (show n < 8 by omega)]; exact c1) (fun q => by omega), ?_, fun i i1 i2 i3 i4 => ?_, ?_, ?_, fun q q1 q2 => ?_⟩
          · refine prel_app hW hP (by omega) (fun _ => hn) ap ?_ (fun i hi => ?_) (fun c hc => ?_) (fun t ht => ?_) (fun g i hg hi hne => ?_) ⟨?_, ?_, fun _ => ?_⟩
            · rw [w62, up_n (by omega)]
            · rw [wi i (by omega) (by omega) (by omega) (by omega) (by omega), fi i (by omega) (by omega)]
            · rw [w67]
              by_cases q : c = n
              · subst q
                rw [up_s, e67, g1, g2, nI_1]
                exact congrArg nI (by omega)
              · rw [up_n q, (hP.2.1 c hc).2.2.2.2.2.1, (ap.o (show c < 11 by omega) q).1, (ap.o (show c < 11 by omega) q).2.1]
            · rw [wi 75 (by omega) (by omega) (by omega) (by omega) (by omega), fi 75 (by omega) (by omega), (ap.o (show 8 + t < 11 by omega) (by omega)).1]
              exact (hP.2.2.2.2.1 t ht).1
            · rw [w72, w73, w74, up_n (by omega), up_n (by omega), up_n (by omega)]
              exact ⟨rfl, rfl, fun _ => rfl⟩
            · rw [w72, up_s]
            · rw [w73, up_s]
            · rw [w74, up_s]
          · rw [wi i (by omega) (by omega) (by omega) (by omega) i3, fi i i1 i2]
          · rw [wi 55 (by omega) (by omega) (by omega) (by omega) (by omega), f55]
          · rw [w62, up_s]
          · rw [w62, up_n q2]
      · left
        rw [c2]
        have e5 : M 67 n = 5 := by rw [e67, c1]; show _ = nI 5; exact congrArg nI (by omega)
        refine ⟨Or.inr rfl, rfl, ?_, ?_⟩
        · unfold pre_Mo_act
          simp only [cs_bd_eq]
          rw [h16, e0, d2, k2, k3, nI_clamp (by omega), e5]
          exact ⟨fun _ => ⟨fun _ => ⟨fun _ => ⟨bad_p _ _ _ _, fun _ => ⟨vp_in_nI (N := 8) (by omega) (by omega), fun _ => trivial, fun q => absurd rfl q⟩, fun q => absurd rfl q⟩, fun q => absurd rfl q⟩, fun q => absurd rfl q⟩, fun q => absurd rfl q⟩
        · unfold f_Mo_act
          simp only [cs_bd_eq]
          rw [h16, e0, d2, k2, k3, nI_clamp (by omega), e5, if_pos rfl, if_pos rfl, if_pos rfl, if_pos rfl, if_pos rfl]
    · rw [k1, if_pos rfl]
      refine ⟨⟨fun q => absurd q (by decide), fun _ => ⟨act_p _ _ _ _, fun _ => trivial, fun q => absurd rfl q⟩⟩, Or.inl ⟨Or.inl rfl, rfl, ?_, ?_⟩⟩
      · unfold pre_Mo_act
        simp only [cs_bd_eq]
        rw [h16, e0, d2]
        refine ⟨fun _ => ⟨fun _ => ⟨fun w => ⟨bad_p _ _ _ _, fun v => ?_, fun _ => trivial⟩, fun _ => trivial⟩, fun _ => trivial⟩, fun _ => trivial⟩
        rcases k2 with g | g
        · rw [g] at w; exact absurd w (by decide)
        · rw [g.2] at v; exact absurd v (by decide)
      · unfold f_Mo_act f_Mo_act_J37
        simp only [cs_bd_eq]
        rw [h16, e0, d2, if_pos rfl, if_pos rfl]
        rcases k2 with g | g
        · rw [g, if_neg (by decide)]
        · rw [g.1, g.2, if_pos rfl, if_neg (by decide)]
  · rw [d1, if_pos rfl]
    refine ⟨⟨fun _ => trivial, fun q => absurd rfl q⟩, Or.inl ⟨Or.inl rfl, rfl, ?_, ?_⟩⟩
    · unfold pre_Mo_act
      simp only [cs_bd_eq]
      rw [h16, e0, d2]
      exact ⟨fun _ => ⟨fun q => absurd q (by decide), fun _ => trivial⟩, fun _ => trivial⟩
    · unfold f_Mo_act f_Mo_act_J37
      simp only [cs_bd_eq]
      rw [h16, e0, d2, if_pos rfl, if_neg (by decide)]
def pW (F : cs_Mem) (k n : Nat) (v x : Int32) : cs_Mem :=
  cs_up (cs_up (cs_up (cs_up F 72 (upd (F 72) k v)) 73 (upd ((cs_up F 72 (upd (F 72) k v)) 73) k x)) 75 (upd ((cs_up (cs_up F 72 (upd (F 72) k v)) 73 (upd ((cs_up F 72 (upd (F 72) k v)) 73) k x)) 75) n ((cs_up (cs_up F 72 (upd (F 72) k v)) 73 (upd ((cs_up F 72 (upd (F 72) k v)) 73) k x)) 75 n + 1))) 62 (upd ((cs_up (cs_up (cs_up F 72 (upd (F 72) k v)) 73 (upd ((cs_up F 72 (upd (F 72) k v)) 73) k x)) 75 (upd ((cs_up (cs_up F 72 (upd (F 72) k v)) 73 (upd ((cs_up F 72 (upd (F 72) k v)) 73) k x)) 75) n ((cs_up (cs_up F 72 (upd (F 72) k v)) 73 (upd ((cs_up F 72 (upd (F 72) k v)) 73) k x)) 75 n + 1))) 62) 31 0)
theorem pW_r (F : cs_Mem) (k n : Nat) (v x : Int32) : pW F k n v x 72 = upd (F 72) k v ∧ pW F k n v x 73 = upd (F 73) k x ∧ pW F k n v x 75 = upd (F 75) n (F 75 n + 1) ∧ pW F k n v x 62 = upd (F 62) 31 0 ∧ ∀ i, i ≠ 72 → i ≠ 73 → i ≠ 75 → i ≠ 62 → pW F k n v x i = F i := by
  unfold pW
  simp [cs_up]
  intro i h1 h2 h3 h4
  rw [if_neg h4, if_neg h3, if_neg h2, if_neg h1]
/-- the plan's tail, when thread and action are sound -/
theorem two_p45 {M : cs_Mem} (hW : WP M) (hP : PRel M) {n a : Nat} {x : Int32} (hn : n < 3) (ha : AOK a x 0) (h8 : a = 0 ∨ a = 5 ∨ a = 6) : pre_Sc_addLast M (8 + 4 * (8 + n)) (nI a) x 0 ∧ Two M ((f_Sc_addLast M (8 + 4 * (8 + n)) (nI a) x 0).1, (f_Sc_addLast M (8 + 4 * (8 + n)) (nI a) x 0).2) (fun N => f_Mo_plan_J45 N 62 (nI n) (nI a) x) (fun N => pre_Mo_plan_J45 N 62 (nI n) (nI a) x) := by
  have p5 := hP.2.2.2.2.1 n hn
  have al := c_addLast (a := nI a) (x := x) (y := 0) hW (show 8 + n < 11 by omega) (fun q => p5.2)
  obtain ⟨l1, l2, l3, l4, l5, l6⟩ := wpLU hW (show 8 + n < 11 by omega)
  rw [if_neg (show ¬ 8 + n < 8 by omega)] at l5 l6 al
  rw [p5.2] at al l5
  refine ⟨al.1, ?_⟩
  rcases al.2 with ⟨c1, c2, c3⟩ | ⟨c1, c2⟩
  · right
    generalize f_Sc_addLast M (8 + 4 * (8 + n)) (nI a) x 0 = u at c2 c3 ⊢
    obtain ⟨u1, u2⟩ := u
    dsimp only at c2 c3 ⊢
    subst c2
    obtain ⟨F, hF⟩ : ∃ F, f_Ex_forget u2 55 = F := ⟨_, rfl⟩
    have f55 : F 55 = upd (upd (M 55) 4 0) 8 0 := by rw [← hF, fg55, c3.2.2.2.2 55 (by omega)]
    have fu : ∀ i, i ≠ 55 → F i = u2 i := fun i hi => by rw [← hF]; exact fr_Ex_forget hi
    have fi : ∀ i, 52 ≤ i → i ≠ 55 → F i = M i := fun i h1 h2 => by rw [fu i h2, c3.2.2.2.2 i (by omega)]
    have ez : (40 : Int32) + 5 * nI n + nI (pgL M (8 + n)) = nI (40 + 5 * n + pgL M (8 + n)) := by rw [show (5 : Int32) = nI 5 from rfl, show (40 : Int32) = nI 40 from rfl, nI_mul, nI_add, nI_add]
    have n3 : ¬ nI (pgL M (8 + n)) = 3 := fun q => absurd ((neq (b := 3) (by omega) (by omega)).mp q) (by omega)
    have i72 : vp_in (nI (40 + 5 * n + pgL M (8 + n))) 55 := vp_in_nI (by omega) (by omega)
    have i3 : vp_in (nI n) 3 := vp_in_nI (by omega) (by omega)
    rw [hF]
    unfold pre_Mo_plan_J45 f_Mo_plan_J45
    simp only [cs_bd_eq]
    rw [nI_clamp (by omega), fi 75 (by omega) (by omega), p5.1, if_neg n3, ez, nI_clamp (by omega)]
    refine ⟨nI_m1 (by omega), nI_m2 (by omega), ⟨i3, fun q => absurd q n3, fun _ => ⟨i72, i72, i3, i3, trivial⟩⟩, ?_, ?_⟩
    · dsimp only
      rw [nI_1]
      exact congrArg nI (by omega)
    · dsimp only
      show Chg M (pW F (40 + 5 * n + pgL M (8 + n)) n (nI a) x)
      obtain ⟨w72, w73, w75, w62, wi⟩ := pW_r F (40 + 5 * n + pgL M (8 + n)) n (nI a) x
      generalize pW F (40 + 5 * n + pgL M (8 + n)) n (nI a) x = O at w72 w73 w75 w62 wi
      have ap : AppP M O (8 + n) (pgL M (8 + n)) (nI a) x 0 := c3.p (by omega) (fun i hi => by rw [wi i (by omega) (by omega) (by omega) (by omega), fu i (by omega)])
      obtain ⟨g1, g2, -⟩ := ap.f (by omega)
      rw [fi 72 (by omega) (by omega)] at w72
      rw [fi 73 (by omega) (by omega)] at w73
      rw [fi 75 (by omega) (by omega)] at w75
      rw [fi 62 (by omega) (by omega)] at w62
      refine ⟨wp_app hW (by omega) ap ha (fun q => h8) (by rw [if_neg (show ¬ 8 + n < 8 by omega), p5.2]; exact c1) (fun q => p5.2), ?_, fun i i1 i2 i3 i4 => ?_, ?_, ?_, fun q q1 q2 => ?_⟩
      · refine prel_app hW hP (by omega) (fun q => by omega) ap ?_ (fun i hi => ?_) (fun c hc => ?_) (fun t ht => ?_) (fun g i hg hi hne => ?_) ⟨?_, ?_, fun q => by omega⟩
        · rw [w62, up_n (by omega)]
        · rw [wi i (by omega) (by omega) (by omega) (by omega), fi i (by omega) (by omega)]
        · rw [wi 67 (by omega) (by omega) (by omega) (by omega), fi 67 (by omega) (by omega), (ap.o (show c < 11 by omega) (by omega)).1, (ap.o (show c < 11 by omega) (by omega)).2.1]
          exact (hP.2.1 c hc).2.2.2.2.2.1
        · rw [w75]
          by_cases q : t = n
          · subst q
            rw [up_s, p5.1, g1, nI_1]
          · rw [up_n q, (hP.2.2.2.2.1 t ht).1, (ap.o (show 8 + t < 11 by omega) (by omega)).1]
        · rw [p5.2] at hne
          rw [w72, w73, wi 74 (by omega) (by omega) (by omega) (by omega), fi 74 (by omega) (by omega), up_n (by omega), up_n (by omega)]
          exact ⟨rfl, rfl, fun _ => rfl⟩
        · rw [w72, p5.2, show 5 * (8 + n) + (pgL M (8 + n) - 0) = 40 + 5 * n + pgL M (8 + n) by omega, up_s]
        · rw [w73, p5.2, show 5 * (8 + n) + (pgL M (8 + n) - 0) = 40 + 5 * n + pgL M (8 + n) by omega, up_s]
      · rw [wi i (by omega) (by omega) (by omega) i3, fi i i1 i2]
      · rw [wi 55 (by omega) (by omega) (by omega) (by omega), f55]
      · rw [w62, up_s]
      · rw [w62, up_n q2]
  · left
    rw [c2]
    have e3 : M 75 n = 3 := by rw [p5.1, c1]; rfl
    refine ⟨Or.inr rfl, rfl, ?_, ?_⟩
    · unfold pre_Mo_plan_J45
      simp only [cs_bd_eq]
      rw [nI_clamp (by omega), e3]
      exact ⟨vp_in_nI (N := 3) (by omega) (by omega), fun _ => trivial, fun q => absurd rfl q⟩
    · unfold f_Mo_plan_J45
      simp only [cs_bd_eq]
      rw [nI_clamp (by omega), e3, if_pos rfl]
theorem Two.congr {M : cs_Mem} {c : Int32 × cs_Mem} {m m' : cs_Mem → Int32 × cs_Mem} {pm pm' : cs_Mem → Prop} (h : Two M c m pm) (e : ∀ N, N 62 = M 62 → m' N = m N ∧ (pm N → pm' N)) (hc : c.2 62 = M 62) : Two M c m' pm' := by
  have e2 := e (f_Ex_forget c.2 55) (by rw [fr_Ex_forget (by omega)]; exact hc)
  rcases h with ⟨h1, h2, h3, h4⟩ | ⟨h1, h2, h3, h4, h5⟩
  · exact Or.inl ⟨h1, h2, (e M rfl).2 h3, (e M rfl).1.trans h4⟩
  · refine Or.inr ⟨h1, h2, e2.2 h3, ?_, ?_⟩
    · rw [e2.1]; exact h4
    · rw [e2.1]; exact h5
theorem al62 {M : cs_Mem} {j : Nat} {a x y : Int32} (hj : j < 52) : (f_Sc_addLast M j a x y).2 62 = M 62 := by
  unfold f_Sc_addLast f_Sc_write
  simp only [cs_bd_eq]
  split
  · dsimp only
    rw [cs_up_ne _ _ (by omega), cs_up_ne _ _ (by omega), cs_up_ne _ _ (by omega), cs_up_ne _ _ (by omega)]
  · rfl
theorem out_any (M N : cs_Mem) (x y : Int32) : f_Mo_out N x y = f_Mo_out M x y := rfl
theorem two_plan {M : cs_Mem} (hW : WP M) (hP : PRel M) (h16 : M 62 16 = 0) (a0 a1 a2 : Int32) : pre_Pr_addPlanned M 1 a0 a1 a2 ∧ Two M (f_Pr_addPlanned M 1 a0 a1 a2) (fun N => f_Mo_plan N 62 a0 a1 a2) (fun N => pre_Mo_plan N 62 a0 a1 a2) := by
  have bad : ∀ c : Int32 × cs_Mem, c = (-1, M) → f_Mo_plan M 62 a0 a1 a2 = (-1, M) → pre_Mo_plan M 62 a0 a1 a2 → Two M c (fun N => f_Mo_plan N 62 a0 a1 a2) (fun N => pre_Mo_plan N 62 a0 a1 a2) := fun c hc h1 h2 => by
    rw [hc]
    exact Or.inl ⟨Or.inl rfl, rfl, h2, h1⟩
  rcases thr_out M M a0 with ⟨d1, d2, n, hn, rfl⟩ | ⟨d1, d2, -⟩
  · have e8 : ((8 : Int32) + nI n).toNatClampNeg = 8 + n := ix8 (by omega)
    have i11 : vp_in ((8 : Int32) + nI n) 11 := by
      rw [show (8 : Int32) = nI 8 from rfl, nI_add]
      exact vp_in_nI (by omega) (by omega)
    have d2N : ∀ N, f_Mo_out N (nI n) 3 = 0 := fun N => d2
    -- sound actions
    have good : ∀ a, a1 = nI a → (a = 0 ∨ a = 5 ∨ a = 6) → AOK a a2 0 → (∀ N, f_Mo_plan_J30 N 62 (nI n) a1 a2 = f_Mo_plan_J45 N 62 (nI n) a1 a2) → (∀ N, pre_Mo_plan_J45 N 62 (nI n) a1 a2 → pre_Mo_plan_J30 N 62 (nI n) a1 a2) → f_Pr_isAction M a1 a2 0 = 1 → pre_Pr_addPlanned_J15 M 1 (nI n) a1 a2 ∧ Two M (f_Pr_addPlanned_J15 M 1 (nI n) a1 a2) (fun N => f_Mo_plan N 62 (nI n) a1 a2) (fun N => pre_Mo_plan N 62 (nI n) a1 a2) := by
      intro a ea h8 ha hJ pJ hact
      have t := two_p45 hW hP (n := n) (a := a) (x := a2) hn ha h8
      rw [← ea] at t
      unfold pre_Pr_addPlanned_J15 f_Pr_addPlanned_J15
      simp only [cs_bd_eq]
      rw [d1, hact, if_neg (by decide), if_neg (by decide), e8]
      refine ⟨⟨fun q => absurd q (by decide), fun _ => ⟨act_p _ _ _ _, fun q => absurd q (by decide), fun _ => ⟨i11, t.1, trivial⟩⟩⟩, t.2.congr (fun N hN => ?_) (al62 (by omega))⟩
      have hN16 : N 62 16 = 0 := by rw [hN]; exact h16
      have hc : a1 = 0 ∨ a1 = 5 ∨ a1 = 6 := by
        rw [ea]
        rcases h8 with q | q | q
        · exact Or.inl (by rw [q]; rfl)
        · exact Or.inr (Or.inl (by rw [q]; rfl))
        · exact Or.inr (Or.inr (by rw [q]; rfl))
      unfold f_Mo_plan pre_Mo_plan
      simp only [cs_bd_eq]
      rw [hN16, d2N N, if_pos rfl, if_pos rfl, ← hJ N]
      refine ⟨?_, fun w => ⟨fun _ => ⟨fun _ => ⟨fun _ => pJ N w, fun _ => ⟨fun _ => pJ N w, fun _ => ⟨fun _ => pJ N w, fun _ => trivial⟩⟩⟩, fun _ => trivial⟩, fun _ => trivial⟩⟩
      by_cases q0 : a1 = 0
      · rw [if_pos q0]
      · rw [if_neg q0]
        by_cases q5 : a1 = 5
        · rw [if_pos q5]
        · rw [if_neg q5, if_pos ((hc.resolve_left q0).resolve_left q5)]
    have J30n : ¬ a1 = 0 → (∀ N, f_Mo_plan_J30 N 62 (nI n) a1 a2 = f_Mo_plan_J45 N 62 (nI n) a1 a2) ∧ ∀ N, pre_Mo_plan_J45 N 62 (nI n) a1 a2 → pre_Mo_plan_J30 N 62 (nI n) a1 a2 := fun q => ⟨fun N => by unfold f_Mo_plan_J30; rw [if_neg q], fun N w => ⟨fun z => absurd z q, fun _ => w⟩⟩
    unfold pre_Pr_addPlanned f_Pr_addPlanned
    simp only [cs_bd_eq]
    by_cases q0 : a1 = 0
    · rw [if_pos q0]
      rcases below_out M M a2 8 (by omega) with ⟨k1, k2, k3⟩ | ⟨k1, k2, -⟩
      · have g := good 0 q0 (Or.inl rfl) ⟨by omega, fun _ => k3, fun q => by omega, fun q => by omega⟩ (fun N => by
          unfold f_Mo_plan_J30
          simp only [cs_bd_eq]
          rw [if_pos q0]
          rw [show f_Mo_out N a2 8 = 0 from k2, if_pos rfl]) (fun N w => by
          unfold pre_Mo_plan_J30
          simp only [cs_bd_eq]
          exact ⟨fun _ => ⟨fun _ => w, fun _ => trivial⟩, fun _ => w⟩) (by rw [ia, if_pos q0]; exact k1)
        exact ⟨⟨fun _ => g.1, fun q => absurd q0 q⟩, g.2⟩
      · have hact : f_Pr_isAction M a1 a2 0 = 0 := by rw [ia, if_pos q0]; exact k1
        refine ⟨⟨fun _ => ?_, fun q => absurd q0 q⟩, bad _ ?_ ?_ ?_⟩
        · unfold pre_Pr_addPlanned_J15
          simp only [cs_bd_eq]
          rw [d1, hact]
          exact ⟨fun q => absurd q (by decide), fun _ => ⟨act_p _ _ _ _, fun _ => trivial, fun q => absurd rfl q⟩⟩
        · unfold f_Pr_addPlanned_J15 f_Pr_addPlanned_J43
          simp only [cs_bd_eq]
          rw [d1, hact, if_neg (by decide), if_pos rfl]
        · unfold f_Mo_plan f_Mo_plan_J30 f_Mo_plan_J43
          simp only [cs_bd_eq]
          rw [h16, d2, if_pos rfl, if_pos rfl, if_pos q0, if_pos q0, show f_Mo_out M a2 8 = 1 from k2, if_neg (by decide)]
        · unfold pre_Mo_plan pre_Mo_plan_J30
          simp only [cs_bd_eq]
          rw [show f_Mo_out M a2 8 = 1 from k2]
          exact ⟨fun _ => ⟨fun _ => ⟨fun _ => ⟨fun _ => ⟨fun q => absurd q (by decide), fun _ => trivial⟩, fun q => absurd q0 q⟩, fun q => absurd q0 q⟩, fun _ => trivial⟩, fun _ => trivial⟩
    · rw [if_neg q0]
      by_cases q5 : a1 = 5
      · rw [if_pos q5]
        have g := good 5 q5 (Or.inr (Or.inl rfl)) ⟨by omega, fun q => by omega, fun q => by omega, fun q => by omega⟩ (J30n q0).1 (J30n q0).2 (by rw [q5]; rfl)
        exact ⟨⟨fun q => absurd q q0, fun _ => ⟨fun _ => g.1, fun q => absurd q5 q⟩⟩, g.2⟩
      · rw [if_neg q5]
        by_cases q6 : a1 = 6
        · rw [if_pos q6]
          have g := good 6 q6 (Or.inr (Or.inr rfl)) ⟨by omega, fun q => by omega, fun q => by omega, fun q => by omega⟩ (J30n q0).1 (J30n q0).2 (by rw [q6]; rfl)
          exact ⟨⟨fun q => absurd q q0, fun _ => ⟨fun q => absurd q q5, fun _ => ⟨fun _ => g.1, fun q => absurd q6 q⟩⟩⟩, g.2⟩
        · rw [if_neg q6]
          refine ⟨⟨fun q => absurd q q0, fun _ => ⟨fun q => absurd q q5, fun _ => ⟨fun q => absurd q q6, fun _ => trivial⟩⟩⟩, bad _ ?_ ?_ ?_⟩
          · unfold f_Pr_addPlanned_J43
            split <;> rfl
          · unfold f_Mo_plan f_Mo_plan_J43
            simp only [cs_bd_eq]
            rw [h16, d2, if_pos rfl, if_pos rfl, if_neg q0, if_neg q5, if_neg q6]
          · unfold pre_Mo_plan
            simp only [cs_bd_eq]
            exact ⟨fun _ => ⟨fun _ => ⟨fun q => absurd q q0, fun _ => ⟨fun q => absurd q q5, fun _ => ⟨fun q => absurd q q6, fun _ => trivial⟩⟩⟩, fun _ => trivial⟩, fun _ => trivial⟩
  · have hJ : f_Pr_addPlanned_J15 M 1 a0 a1 a2 = (-1, M) := by
      unfold f_Pr_addPlanned_J15 f_Pr_addPlanned_J43
      simp only [cs_bd_eq]
      rw [d1, if_pos rfl]
    have pJ : pre_Pr_addPlanned_J15 M 1 a0 a1 a2 := by
      unfold pre_Pr_addPlanned_J15
      simp only [cs_bd_eq]
      rw [d1]
      exact ⟨fun _ => trivial, fun q => absurd rfl q⟩
    refine ⟨⟨fun _ => pJ, fun _ => ⟨fun _ => pJ, fun _ => ⟨fun _ => pJ, fun _ => trivial⟩⟩⟩, bad _ ?_ ?_ ?_⟩
    · unfold f_Pr_addPlanned f_Pr_addPlanned_J43
      simp only [cs_bd_eq]
      rw [hJ]
      repeat' split
      all_goals rfl
    · unfold f_Mo_plan f_Mo_plan_J43
      simp only [cs_bd_eq]
      rw [h16, d2, if_pos rfl, if_neg (by decide)]
    · unfold pre_Mo_plan
      simp only [cs_bd_eq]
      rw [d2]
      exact ⟨fun _ => ⟨fun q => absurd q (by decide), fun _ => trivial⟩, fun _ => trivial⟩
