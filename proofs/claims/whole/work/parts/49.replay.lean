/-! runs of steps, and the reference's replay of them -/
def rn (M : cs_Mem) (S : Ms) : List Nat → Ms
  | [] => S
  | t :: ts => rn M (mStep M S t) ts
def okR (M : cs_Mem) (S : Ms) : List Nat → Prop
  | [] => True
  | t :: ts => t < 3 ∧ mAb M S t = true ∧ okR M (mStep M S t) ts
theorem rn_app (M : cs_Mem) : ∀ (ts us : List Nat) (S : Ms), rn M S (ts ++ us) = rn M (rn M S ts) us
  | [], _, _ => rfl
  | t :: ts, us, S => rn_app M ts us (mStep M S t)
theorem okR_app (M : cs_Mem) : ∀ (ts us : List Nat) (S : Ms), okR M S (ts ++ us) ↔ okR M S ts ∧ okR M (rn M S ts) us
  | [], us, S => ⟨fun h => ⟨trivial, h⟩, fun h => h.2⟩
  | t :: ts, us, S => by
    show (t < 3 ∧ mAb M S t = true ∧ okR M (mStep M S t) (ts ++ us)) ↔ (t < 3 ∧ mAb M S t = true ∧ okR M (mStep M S t) ts) ∧ _
    rw [okR_app M ts us (mStep M S t)]
    constructor
    · rintro ⟨h1, h2, h3, h4⟩
      exact ⟨⟨h1, h2, h3⟩, h4⟩
    · rintro ⟨⟨h1, h2, h3⟩, h4⟩
      exact ⟨h1, h2, h3, h4⟩
/-- a state that is reached, with its faults -/
def Sg (M : cs_Mem) (S : Ms) (k : Nat) : Prop := St M S k ∧ FV S
theorem sg0 {M : cs_Mem} (hW : WP M) : Sg M msZ 0 := ⟨st0 hW, fun _ _ => Or.inl rfl⟩
theorem Sg.step {M : cs_Mem} {S : Ms} {k t : Nat} (hW : WP M) (h : Sg M S k) (ht : t < 3) (hab : mAb M S t = true) : Sg M (mStep M S t) (k + 1) := ⟨h.1.step hW ht (ab_end hab).1, fv_step hW h.1.1 h.2 ht⟩
theorem Sg.run {M : cs_Mem} (hW : WP M) : ∀ (ts : List Nat) (S : Ms) (k : Nat), Sg M S k → okR M S ts → Sg M (rn M S ts) (k + ts.length)
  | [], _, _, h, _ => h
  | t :: ts, S, k, h, ok => by
    have := Sg.run hW ts (mStep M S t) (k + 1) (h.step hW ok.1 ok.2.1) ok.2.2
    rw [show k + (t :: ts).length = k + 1 + ts.length by simp; omega]
    exact this
theorem PE.step {M N : cs_Mem} (h : PE M N) {S : Ms} {t : Nat} (hI : InvS M S) (ht : t < 3) : mStep N S t = mStep M S t := by
  have hT := top_lt hI ht
  unfold mStep
  rw [h.L hT, h.uso hT]
  by_cases hf : mFl S t = 0
  · rw [if_pos hf, if_pos hf]
    by_cases hp : pgL M (mTop S t) ≤ mPr S (mTop S t)
    · rw [if_pos hp, if_pos hp]
      rcases top_cases (S := S) (t := t) with ⟨a1, a2⟩ | ⟨d, l, a1, a2⟩
      · have : mPop S t 1 = S := by unfold mPop; rw [a1]
        rw [this]
        exact h.made hT
      · exact h.made (top_lt (inv_pop hI ht (v := 1) (Or.inl rfl) a1 hf).1 ht)
    · rw [if_neg hp, if_neg hp]
      split
      · exact h.use hT
      · exact h.perf hT
  · rw [if_neg hf, if_neg hf]
    rcases top_cases (S := S) (t := t) with ⟨a1, a2⟩ | ⟨d, l, a1, a2⟩
    · have : mPop (mSetF S t 0) t 2 = mSetF S t 0 := by
        unfold mPop
        rw [show mSk (mSetF S t 0) t = [] from a1]
      rw [this]
      exact h.come (S := mSetF S t 0) hT
    · exact h.come (top_lt (inv_pop (inv_setF0 (t := t) hI) ht (v := 2) (Or.inr rfl) a1 (va_up_self _ _ _)).1 ht)
theorem PE.wt {M N : cs_Mem} (h : PE M N) {S : Ms} {t : Nat} (hI : InvS M S) (ht : t < 3) : mWt N S t = mWt M S t := by
  unfold mWt
  rw [h.uso (top_lt hI ht)]
theorem PE.ab {M N : cs_Mem} (h : PE M N) {S : Ms} {t : Nat} (hI : InvS M S) (ht : t < 3) : mAb N S t = mAb M S t := by
  unfold mAb
  rw [h.eend ht, h.wt hI ht]
theorem PE.nx {M N : cs_Mem} (h : PE M N) {S : Ms} {g : Nat} (hI : InvS M S) : mNx N S g = mNx M S g := by
  unfold mNx
  rw [h.ab hI (t := 0) (by omega), h.ab hI (t := 1) (by omega), h.ab hI (t := 2) (by omega)]
theorem PE.run {M N : cs_Mem} (h : PE M N) (hW : WP M) : ∀ (ts : List Nat) (S : Ms) (k : Nat), Sg M S k → okR M S ts → okR N S ts ∧ rn N S ts = rn M S ts
  | [], _, _, _, _ => ⟨trivial, rfl⟩
  | t :: ts, S, k, hs, ok => by
    have r := PE.run h hW ts (mStep M S t) (k + 1) (hs.step hW ok.1 ok.2.1) ok.2.2
    have e := h.step hs.1.1 ok.1
    refine ⟨⟨ok.1, by rw [h.ab hs.1.1 ok.1]; exact ok.2.1, by rw [e]; exact r.1⟩, ?_⟩
    show rn N (mStep N S t) ts = rn M (mStep M S t) ts
    rw [e]
    exact r.2
theorem PE.sym {M N : cs_Mem} (h : PE M N) : PE N M := fun i hi => (h i hi).symm
theorem PE.sg {M N : cs_Mem} (h : PE M N) {S : Ms} {k : Nat} (hs : Sg M S k) : Sg N S k := by
  refine ⟨⟨h.inv hs.1.1, hs.1.2.1, ?_⟩, hs.2⟩
  have : sm (w2 N S) = sm (w2 M S) := sm_same (fun e he => by unfold w2; rw [h.U he])
  rw [this]
  exact hs.1.2.2
theorem wk_S (n : Nat) (M : cs_Mem) (y1 : Int32) : f_Mo_work_L6 (n + 1) M 62 y1 = if (M 62 15) ≤ y1 then M else f_Mo_work_L6 n (f_Mo_stepOf M 62 (M 76 y1.toNatClampNeg)) 62 (y1 + 1) := by
  show (if _ then _ else cs_bd _ fun _ => cs_bd _ _) = _
  simp only [cs_bd_eq]
theorem pwk_S (n : Nat) (M : cs_Mem) (y1 : Int32) : pre_Mo_work_L6 (n + 1) M 62 y1 ↔ ((M 62 15) ≤ y1 → True) ∧ (¬ (M 62 15) ≤ y1 → vp_in y1 (cs_ln M 76) ∧ pre_Mo_stepOf M 62 (M 76 y1.toNatClampNeg) ∧ pre_Mo_work_L6 n (f_Mo_stepOf M 62 (M 76 y1.toNatClampNeg)) 62 (y1 + 1)) := by
  show ((_ → True) ∧ (_ → _ ∧ _ ∧ cs_bd _ fun _ => cs_bd _ _)) ↔ _
  simp only [cs_bd_eq]
theorem m_workL : ∀ (us : List Nat) (n i : Nat) (M : cs_Mem) (S : Ms), WP M → PRel M → Sg M S i → EncM S M → okR M S us → us.length ≤ n → M 62 15 = nI (i + us.length) → (∀ q, q < us.length → M 76 (i + q) = nI (us.getD q 0)) → i + us.length ≤ 500 → pre_Mo_work_L6 (n + 1) M 62 (nI i) ∧ KM M (f_Mo_work_L6 (n + 1) M 62 (nI i)) ∧ EncM (rn M S us) (f_Mo_work_L6 (n + 1) M 62 (nI i))
  | [], n, i, M, S, hW, hP, hs, hE, ok, hn, h15, h76, hb => by
    have c : M 62 15 ≤ nI i := by rw [h15]; exact (nle (by simp at hb ⊢; omega) (by simp at hb; omega)).mpr (by simp)
    rw [wk_S, pwk_S, if_pos c]
    exact ⟨⟨fun _ => trivial, fun q => absurd c q⟩, KM.refl M, hE⟩
  | t :: us, n, i, M, S, hW, hP, hs, hE, ok, hn, h15, h76, hb => by
    simp at hn hb h15
    have c : ¬ M 62 15 ≤ nI i := by rw [h15]; exact fun q => absurd ((nle (by omega) (by omega)).mp q) (by omega)
    have e0 : M 76 i = nI t := h76 0 (by simp)
    rw [wk_S, pwk_S, if_neg c, nI_clamp (by omega), e0, nI_1]
    have st := m_stepOf hW hP hs.1.1 hs.2 hE ok.1 ok.2.1 (by have := hs.1.lg hW; omega)
    have k := st.2.1
    have pe := k.pe
    have hs2 := hs.step hW ok.1 ok.2.1
    obtain ⟨m, rfl⟩ : ∃ m, n = m + 1 := ⟨n - 1, by omega⟩
    have pr := pe.run hW us (mStep M S t) (i + 1) hs2 ok.2.2
    have r := m_workL us m (i + 1) (f_Mo_stepOf M 62 (nI t)) (mStep M S t) (pe.wp hW) (k.prel hW hP) (pe.sg hs2) st.2.2 pr.1 (by omega) (by rw [k.2 15 (by omega), h15]; exact congrArg nI (by omega)) (fun q hq => by
      rw [k.1 76 (by omega), show i + 1 + q = i + (q + 1) by omega, h76 (q + 1) (by simp; omega)]
      rfl) (by omega)
    rw [pr.2] at r
    exact ⟨⟨fun _ => trivial, fun _ => ⟨vp_in_nI (N := 513) (by omega) (by omega), st.1, r.1⟩⟩, k.trans r.2.1, r.2.2⟩
theorem m_work {M : cs_Mem} {ts : List Nat} (hW : WP M) (hP : PRel M) (ok : okR M msZ ts) (h15 : M 62 15 = nI ts.length) (h76 : ∀ q, q < ts.length → M 76 q = nI (ts.getD q 0)) : pre_Mo_work M 62 ∧ KM M (f_Mo_work M 62) ∧ EncM (rn M msZ ts) (f_Mo_work M 62) := by
  have s := m_start hW hP
  have k := s.2.1
  have pe := k.pe
  have hl : ts.length ≤ 89 := by
    have := (Sg.run hW ts msZ 0 (sg0 hW) ok).1.le hW
    omega
  have pr := pe.run hW ts msZ 0 (sg0 hW) ok
  have r := m_workL ts 599 0 (f_Mo_start M 62) msZ (pe.wp hW) (k.prel hW hP) (sg0 (pe.wp hW)) s.2.2 pr.1 (by omega) (by rw [k.2 15 (by omega), h15, Nat.zero_add]) (fun q hq => by rw [k.1 76 (by omega), Nat.zero_add]; exact h76 q hq) (by omega)
  rw [pr.2] at r
  unfold pre_Mo_work f_Mo_work
  simp only [cs_bd_eq]
  exact ⟨⟨s.1, r.1⟩, k.trans r.2.1, r.2.2⟩
