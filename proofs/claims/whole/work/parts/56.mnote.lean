/-! the reference's noteOrder -/
theorem prel_of {M N : cs_Mem} (pe : PE M N) (r : ∀ i, 62 < i → i < 76 → N i = M i) (h0 : N 62 0 = M 62 0) (hW : WP M) (hP : PRel M) : PRel N := by
  have eul : ∀ c, ul N c = ul M c := fun c => by unfold ul; rw [r 63 (by omega) (by omega), r 65 (by omega) (by omega), r 70 (by omega) (by omega), r 71 (by omega) (by omega)]
  obtain ⟨p1, p2, p3, p4, p5, p6⟩ := hP
  refine ⟨?_, fun c hc => ?_, fun c h1 h2 => ?_, fun c hc => ?_, fun t ht => ?_, fun f hf i hi => ?_⟩
  · rw [h0, pe 1 (by omega)]; exact p1
  · rw [r 68 (by omega) (by omega), pe 2 (by omega), r 69 (by omega) (by omega), pe 3 (by omega), r 64 (by omega) (by omega), pe 4 (by omega), r 65 (by omega) (by omega), pe 6 (by omega), r 67 (by omega) (by omega), r 70 (by omega) (by omega), pe 5 (by omega), pe.L (by omega), pe.U (by omega)]
    exact p2 c hc
  · rw [pe.N] at h1
    rw [pe 3 (by omega), r 65 (by omega) (by omega), pe.L (by omega)]
    exact p3 c h1 h2
  · rw [pe.N] at hc
    have hn := (wpN hW).2
    rw [pe.U (by omega), eul, pe 2 (by omega), r 63 (by omega) (by omega), r 65 (by omega) (by omega)]
    refine ⟨(p4 c hc).1, fun p hp => ?_, (p4 c hc).2.2⟩
    rw [pe.X (by omega)]
    exact (p4 c hc).2.1 p hp
  · rw [r 75 (by omega) (by omega), pe.L (by omega), pe.U (by omega)]
    exact p5 t ht
  · rw [pe.U hf, pe.L hf] at hi
    rw [pe.U hf, pe.A hf, pe.X hf, pe.Y hf, r 72 (by omega) (by omega), r 73 (by omega) (by omega), r 74 (by omega) (by omega)]
    exact p6 f hf i hi
theorem encM_of {M N : cs_Mem} {S : Ms} (pe : PE M N) (r : ∀ i, i = 64 ∨ (78 ≤ i ∧ i ≤ 85) → N i = M i) (h26 : N 62 26 = M 62 26) (hE : EncM S M) : EncM S N := by
  obtain ⟨⟨h1, h2, h3, h4, h5, h6, h7, h8⟩, h9⟩ := hE
  refine ⟨⟨?_, ?_, ?_, ?_, ?_, ?_, ?_, ?_⟩, fun t ht => ?_⟩
  · rw [r 78 (by omega)]; exact h1
  · rw [r 79 (by omega)]; exact h2
  · rw [r 79 (by omega), r 64 (by omega)]; exact h3
  · rw [r 82 (by omega), r 80 (by omega), r 81 (by omega)]; exact h4
  · rw [r 80 (by omega), r 81 (by omega)]; exact h5
  · rw [r 83 (by omega)]; exact h6
  · rw [h26]; exact h7
  · rw [r 85 (by omega)]; exact h8
  · rw [r 84 (by omega), pe.eend ht]; exact h9 t ht
theorem n116_S (n : Nat) (M : cs_Mem) (y1 y3 y4 : Int32) : f_Mo_noteOrder_L116 (n + 1) M 62 y1 y3 y4 = if y4 ≤ y3 then cs_up (cs_up M 86 (upd (M 86) y3.toNatClampNeg y1)) 62 (upd ((cs_up M 86 (upd (M 86) y3.toNatClampNeg y1)) 62) 28 (((cs_up M 86 (upd (M 86) y3.toNatClampNeg y1)) 62 28) + 1)) else f_Mo_noteOrder_L116 n (cs_up M 86 (upd (M 86) y4.toNatClampNeg (M 86 (y4 - 1).toNatClampNeg))) 62 y1 y3 (y4 + (-1)) := by
  rw [f_Mo_noteOrder_L116]
  simp only [cs_bd_eq]
theorem pn116_S (n : Nat) (M : cs_Mem) (y1 y3 y4 : Int32) : pre_Mo_noteOrder_L116 (n + 1) M 62 y1 y3 y4 ↔ (y4 ≤ y3 → vp_in y3 (cs_ln M 86) ∧ True) ∧ (¬ y4 ≤ y3 → vp_in (y4 - 1) (cs_ln M 86) ∧ vp_in y4 (cs_ln M 86) ∧ pre_Mo_noteOrder_L116 n (cs_up M 86 (upd (M 86) y4.toNatClampNeg (M 86 (y4 - 1).toNatClampNeg))) 62 y1 y3 (y4 + (-1))) := by
  rw [pre_Mo_noteOrder_L116]
  simp only [cs_bd_eq]
def N116 (x k d : Nat) (M N : cs_Mem) : Prop := (∀ i, i < k → N 86 i = M 86 i) ∧ N 86 k = nI x ∧ (∀ i, k ≤ i → i < k + d → N 86 (i + 1) = M 86 i) ∧ N 62 = upd (M 62) 28 (M 62 28 + 1) ∧ (∀ i, i ≠ 62 → i ≠ 86 → N i = M i) ∧ ∀ i, k + d < i → N 86 i = M 86 i
theorem m_n116 {x k : Nat} : ∀ (d n : Nat) (M : cs_Mem), d < n → k + d ≤ 3000 → pre_Mo_noteOrder_L116 n M 62 (nI x) (nI k) (nI (k + d)) ∧ N116 x k d M (f_Mo_noteOrder_L116 n M 62 (nI x) (nI k) (nI (k + d))) := by
  intro d
  induction d with
  | zero =>
    intro n M h1 h2
    obtain ⟨m, rfl⟩ : ∃ m, n = m + 1 := ⟨n - 1, by omega⟩
    have c : nI (k + 0) ≤ nI k := (nle (by omega) (by omega)).mpr (by omega)
    rw [n116_S, pn116_S, if_pos c, nI_clamp (n := k) (by omega)]
    refine ⟨⟨fun _ => ⟨vp_in_nI (N := 3001) (by omega) (by omega), trivial⟩, fun q => absurd c q⟩, fun i hi => ?_, ?_, fun i g1 g2 => by omega, ?_, fun i g1 g2 => ?_, fun i g1 => ?_⟩
    · rw [cs_up_ne _ _ (show 86 ≠ 62 by omega), cs_up_self, up_n (by omega)]
    · rw [cs_up_ne _ _ (show 86 ≠ 62 by omega), cs_up_self, up_s]
    · rw [cs_up_self, cs_up_ne _ _ (show 62 ≠ 86 by omega)]
    · rw [cs_up_ne _ _ g1, cs_up_ne _ _ g2]
    · rw [cs_up_ne _ _ (show 86 ≠ 62 by omega), cs_up_self, up_n (by omega)]
  | succ d ih =>
    intro n M h1 h2
    obtain ⟨m, rfl⟩ : ∃ m, n = m + 1 := ⟨n - 1, by omega⟩
    have c : ¬ nI (k + (d + 1)) ≤ nI k := fun q => absurd ((nle (by omega) (by omega)).mp q) (by omega)
    rw [n116_S, pn116_S, if_neg c, show k + (d + 1) = k + d + 1 by omega, nI_pred, nI_m1', nI_clamp (n := k + d) (by omega), nI_clamp (n := k + d + 1) (by omega)]
    obtain ⟨r1, r2, r3, r4, r5, r6, r7⟩ := ih m (cs_up M 86 (upd (M 86) (k + d + 1) (M 86 (k + d)))) (by omega) (by omega)
    rw [show k + (d + 1) = k + d + 1 by omega] at c
    refine ⟨⟨fun q => absurd q c, fun _ => ⟨vp_in_nI (N := 3001) (by omega) (by omega), vp_in_nI (N := 3001) (by omega) (by omega), r1⟩⟩, fun i hi => ?_, r3, fun i g1 g2 => ?_, ?_, fun i g1 g2 => ?_, fun i g1 => ?_⟩
    · rw [r2 i hi, cs_up_self, up_n (by omega)]
    · by_cases q : i = k + d
      · rw [q, r7 (k + d + 1) (by omega), cs_up_self, up_s]
      · rw [r4 i g1 (by omega), cs_up_self, up_n (by omega)]
    · rw [r5, cs_up_ne _ _ (show 62 ≠ 86 by omega)]
    · rw [r6 i g1 g2, cs_up_ne _ _ g2]
    · rw [r7 i (by omega), cs_up_self, up_n (by omega)]
def FM (M : cs_Mem) (l : List Nat) : Prop := FE l (M 86) ∧ M 62 28 = nI l.length
/-- what has become of the reference's outcomes -/
def FRM (M N : cs_Mem) (l : List Nat) : Prop := FM N l ∧ (∀ q, q ≠ 28 → N 62 q = M 62 q) ∧ ∀ i, i ≠ 62 → i ≠ 86 → N i = M i
theorem m_put {M : cs_Mem} {l : List Nat} {x k : Nat} (h : FM M l) (hk : k ≤ l.length) (hl : l.length ≤ 3000) : pre_Mo_noteOrder_J110 M 62 (nI x) (nI k) ∧ FRM M (f_Mo_noteOrder_J110 M 62 (nI x) (nI k)) (l.take k ++ x :: l.drop k) := by
  unfold pre_Mo_noteOrder_J110 f_Mo_noteOrder_J110
  simp only [cs_bd_eq]
  have e : l.length = k + (l.length - k) := by omega
  have e2 : M 62 28 = nI (k + (l.length - k)) := by rw [h.2, ← e]
  rw [e2]
  obtain ⟨r1, r2, r3, r4, r5, r6, r7⟩ := m_n116 (x := x) (k := k) (l.length - k) 4000 M (by omega) (by omega)
  refine ⟨r1, ⟨FE.ins h.1 hk r2 r3 (fun i g1 g2 => r4 i g1 (by omega)), ?_⟩, fun q hq => ?_, r6⟩
  · rw [r5, up_s, h.2, nI_1, len_ins hk]
  · rw [r5, up_n hq]
theorem m_j91 {M : cs_Mem} {l : List Nat} {x k : Nat} (h : FM M l) (hk : IsLo l x k) (hl : l.length ≤ 3000) (hx : x < 1000000) (hs : l.Pairwise (· < ·)) (hm : ∀ y, y ∈ l → y < 1000000) : pre_Mo_noteOrder_J91 M 62 (nI x) (nI k) ∧ FRM M (f_Mo_noteOrder_J91 M 62 (nI x) (nI k)) (insN l x) := by
  have hk1 := hk.1
  have p := m_put (x := x) h hk1 hl
  unfold pre_Mo_noteOrder_J91 f_Mo_noteOrder_J91
  rw [h.2, nI_clamp (by omega), ins_lo l x k hs hk]
  by_cases c : l.length ≤ k
  · have c' : nI l.length ≤ nI k := (nle (by omega) (by omega)).mpr c
    rw [if_pos c', if_neg (fun q => by omega)]
    exact ⟨⟨fun _ => p.1, fun q => absurd c' q⟩, p.2⟩
  · have c' : ¬ nI l.length ≤ nI k := fun q => c ((nle (by omega) (by omega)).mp q)
    have ek : M 86 k = nI (l.getD k 0) := h.1 k (by omega)
    have hla : l.getD k 0 < 1000000 := by
      rw [List.getD_eq_getElem?_getD, List.getElem?_eq_getElem (by omega)]
      exact hm _ (List.getElem_mem _)
    have hin : vp_in (nI k) (cs_ln M 86) := vp_in_nI (N := 3001) (by omega) (by omega)
    rw [if_neg c', ek]
    by_cases w : l.getD k 0 = x
    · rw [if_pos (by rw [w]), if_pos ⟨by omega, w⟩]
      exact ⟨⟨fun q => absurd q c', fun _ => ⟨hin, fun _ => trivial, fun q => absurd (by rw [w]) q⟩⟩, h, fun _ _ => rfl, fun _ _ _ => rfl⟩
    · have w' : ¬ nI (l.getD k 0) = nI x := fun g => w ((neq (by omega) (by omega)).mp g)
      rw [if_neg w', if_neg (fun q => w q.2)]
      exact ⟨⟨fun q => absurd q c', fun _ => ⟨hin, fun q => absurd q w', fun _ => p.1⟩⟩, p.2⟩
theorem n67_S (n : Nat) (M : cs_Mem) (y1 y3 : Int32) : f_Mo_noteOrder_L67 (n + 1) M 62 y1 y3 = if (M 62 28) ≤ y3 then f_Mo_noteOrder_J91 M 62 y1 y3 else if y1 ≤ (M 86 y3.toNatClampNeg) then f_Mo_noteOrder_J91 M 62 y1 y3 else f_Mo_noteOrder_L67 n M 62 y1 (y3 + 1) := by
  rw [f_Mo_noteOrder_L67]
  simp only [cs_bd_eq]
theorem pn67_S (n : Nat) (M : cs_Mem) (y1 y3 : Int32) : pre_Mo_noteOrder_L67 (n + 1) M 62 y1 y3 ↔ ((M 62 28) ≤ y3 → pre_Mo_noteOrder_J91 M 62 y1 y3) ∧ (¬ (M 62 28) ≤ y3 → vp_in y3 (cs_ln M 86) ∧ (y1 ≤ (M 86 y3.toNatClampNeg) → pre_Mo_noteOrder_J91 M 62 y1 y3) ∧ (¬ y1 ≤ (M 86 y3.toNatClampNeg) → pre_Mo_noteOrder_L67 n M 62 y1 (y3 + 1))) := by
  rw [pre_Mo_noteOrder_L67]
  simp only [cs_bd_eq]
theorem m_n67 {M : cs_Mem} {l : List Nat} {x : Nat} (h : FM M l) (hl : l.length ≤ 3000) (hx : x < 1000000) (hs : l.Pairwise (· < ·)) (hm : ∀ y, y ∈ l → y < 1000000) : ∀ (d a n : Nat), a + d = l.length → d < n → (∀ i, i < a → l.getD i 0 < x) → pre_Mo_noteOrder_L67 n M 62 (nI x) (nI a) ∧ FRM M (f_Mo_noteOrder_L67 n M 62 (nI x) (nI a)) (insN l x) := by
  intro d
  induction d with
  | zero =>
    intro a n h1 h2 h3
    obtain ⟨m, rfl⟩ : ∃ m, n = m + 1 := ⟨n - 1, by omega⟩
    have c : M 62 28 ≤ nI a := by rw [h.2]; exact (nle (by omega) (by omega)).mpr (by omega)
    have r := m_j91 (x := x) (k := a) h ⟨by omega, h3, fun i g1 g2 => by omega⟩ hl hx hs hm
    rw [n67_S, pn67_S, if_pos c]
    exact ⟨⟨fun _ => r.1, fun q => absurd c q⟩, r.2⟩
  | succ d ih =>
    intro a n h1 h2 h3
    obtain ⟨m, rfl⟩ : ∃ m, n = m + 1 := ⟨n - 1, by omega⟩
    have c : ¬ M 62 28 ≤ nI a := by rw [h.2]; exact fun q => absurd ((nle (by omega) (by omega)).mp q) (by omega)
    have ek : M 86 a = nI (l.getD a 0) := h.1 a (by omega)
    have hla : l.getD a 0 < 1000000 := by
      rw [List.getD_eq_getElem?_getD, List.getElem?_eq_getElem (by omega)]
      exact hm _ (List.getElem_mem _)
    have hin : vp_in (nI a) (cs_ln M 86) := vp_in_nI (N := 3001) (by omega) (by omega)
    rw [n67_S, pn67_S, if_neg c, nI_clamp (by omega), ek, nI_1]
    by_cases w : x ≤ l.getD a 0
    · have w' : nI x ≤ nI (l.getD a 0) := (nle (by omega) (by omega)).mpr w
      have r := m_j91 (x := x) (k := a) h ⟨by omega, h3, fun i g1 g2 => by
        rcases Nat.lt_or_ge a i with v | v
        · have := sorted_getD hs v g2
          omega
        · have : i = a := by omega
          rw [this]; exact w⟩ hl hx hs hm
      rw [if_pos w']
      exact ⟨⟨fun q => absurd q c, fun _ => ⟨hin, fun _ => r.1, fun q => absurd w' q⟩⟩, r.2⟩
    · have w' : ¬ nI x ≤ nI (l.getD a 0) := fun q => w ((nle (by omega) (by omega)).mp q)
      have r := ih (a + 1) m (by omega) (by omega) (fun i hi => by
        rcases Nat.lt_or_ge i a with v | v
        · exact h3 i v
        · have : i = a := by omega
          rw [this]; omega)
      rw [if_neg w']
      exact ⟨⟨fun q => absurd q c, fun _ => ⟨hin, fun q => absurd q w', fun _ => r.1⟩⟩, r.2⟩
theorem m_n65 {M : cs_Mem} {l : List Nat} {x : Nat} (h : FM M l) (hl : l.length ≤ 3000) (hx : x < 1000000) (hs : l.Pairwise (· < ·)) (hm : ∀ y, y ∈ l → y < 1000000) : pre_Mo_noteOrder_J65 M 62 (nI x) ∧ FRM M (f_Mo_noteOrder_J65 M 62 (nI x)) (insN l x) := m_n67 h hl hx hs hm l.length 0 4000 (by omega) (by omega) (fun i hi => by omega)
theorem n16_S (n : Nat) (M : cs_Mem) (y1 y2 y3 : Int32) : f_Mo_noteOrder_L16 (n + 1) M 62 y1 y2 y3 = if 3 ≤ y3 then (if y2 = 0 then f_Mo_noteOrder_J65 M 62 y1 else f_Mo_noteOrder_J65 (cs_up M 62 (upd (M 62) 30 ((M 62 30) + 1))) 62 y1) else if f_Mo_resultNow M 62 y3 = 50 then f_Mo_noteOrder_L16 n M 62 ((100 * y1) + f_Mo_resultNow M 62 y3) 1 (y3 + 1) else f_Mo_noteOrder_L16 n M 62 ((100 * y1) + f_Mo_resultNow M 62 y3) y2 (y3 + 1) := by
  rw [f_Mo_noteOrder_L16]
  simp only [cs_bd_eq]
theorem pn16_S (n : Nat) (M : cs_Mem) (y1 y2 y3 : Int32) : pre_Mo_noteOrder_L16 (n + 1) M 62 y1 y2 y3 ↔ (3 ≤ y3 → (y2 = 0 → pre_Mo_noteOrder_J65 M 62 y1) ∧ (¬ y2 = 0 → pre_Mo_noteOrder_J65 (cs_up M 62 (upd (M 62) 30 ((M 62 30) + 1))) 62 y1)) ∧ (¬ 3 ≤ y3 → pre_Mo_resultNow M 62 y3 ∧ (f_Mo_resultNow M 62 y3 = 50 → pre_Mo_noteOrder_L16 n M 62 ((100 * y1) + f_Mo_resultNow M 62 y3) 1 (y3 + 1)) ∧ (¬ f_Mo_resultNow M 62 y3 = 50 → pre_Mo_noteOrder_L16 n M 62 ((100 * y1) + f_Mo_resultNow M 62 y3) y2 (y3 + 1))) := by
  rw [pre_Mo_noteOrder_L16]
  simp only [cs_bd_eq]
theorem note_t {M : cs_Mem} {S : Ms} {t a b n : Nat} (hW : WP M) (hP : PRel M) (hI : InvS M S) (hE : EncM S M) (h3 : mNx M S 0 = 3) (ht : t < 3) (hb : b ≤ 1) : f_Mo_noteOrder_L16 (n + 1) M 62 (nI a) (nI b) (nI t) = f_Mo_noteOrder_L16 n M 62 (nI (100 * a + lrN M S t)) (nI (sb b (lrN M S t))) (nI (t + 1)) ∧ (pre_Mo_noteOrder_L16 n M 62 (nI (100 * a + lrN M S t)) (nI (sb b (lrN M S t))) (nI (t + 1)) → pre_Mo_noteOrder_L16 (n + 1) M 62 (nI a) (nI b) (nI t)) := by
  have hlr := lr_le hI ht
  have rs := m_res hW hP hI hE ht
  have el : f_Mo_resultNow M 62 (nI t) = nI (lrN M S t) := by
    rw [rs.1]
    unfold lrN mRes
    rw [if_pos h3]
    split <;> rfl
  have c3 : ¬ 3 ≤ nI t := fun q => absurd ((nle (a := 3) (by omega) (by omega)).mp q) (by omega)
  have ea : (100 : Int32) * nI a + nI (lrN M S t) = nI (100 * a + lrN M S t) := by rw [show (100 : Int32) = nI 100 from rfl, nI_mul, nI_add]
  rw [n16_S, pn16_S, if_neg c3, el, ea, nI_1]
  by_cases v : lrN M S t = 50
  · have v' : nI (lrN M S t) = 50 := by rw [v]; rfl
    have e : sb b (lrN M S t) = 1 := by unfold sb; rw [if_neg (fun q => q.2 v)]
    rw [if_pos v', e]
    exact ⟨rfl, fun h => ⟨fun q => absurd q c3, fun _ => ⟨rs.2, fun _ => h, fun q => absurd v' q⟩⟩⟩
  · have v' : ¬ nI (lrN M S t) = 50 := fun q => v ((neq (b := 50) (by omega) (by omega)).mp q)
    have e : sb b (lrN M S t) = b := by
      unfold sb
      by_cases b0 : b = 0
      · rw [if_pos ⟨b0, v⟩, b0]
      · rw [if_neg (fun q => b0 q.1)]; omega
    rw [if_neg v', e]
    exact ⟨rfl, fun h => ⟨fun q => absurd q c3, fun _ => ⟨rs.2, fun q => absurd q v', fun _ => h⟩⟩⟩
/-- an order is noted on the reference's side -/
def NR (M N : cs_Mem) (l : List Nat) (o s : Nat) : Prop := FM N l ∧ N 62 29 = nI o ∧ N 62 30 = nI s ∧ (∀ q, q ≠ 28 → q ≠ 29 → q ≠ 30 → N 62 q = M 62 q) ∧ ∀ i, i ≠ 62 → i ≠ 86 → N i = M i
theorem m_noteE {M N : cs_Mem} {S : Ms} {s : Nat} {n : Nat} {l : List Nat} (hW : WP N) (hP : PRel N) (hI : InvS N S) (hE : EncM S N) (h3 : mNx N S 0 = 3) (h : FM N l) (hl : l.length ≤ 3000) (hs : l.Pairwise (· < ·)) (hm : ∀ y, y ∈ l → y < 1000000) (h6 : N 62 30 = nI s) : pre_Mo_noteOrder_L16 (n + 4) N 62 (nI 0) (nI 0) (nI 0) ∧ FM (f_Mo_noteOrder_L16 (n + 4) N 62 (nI 0) (nI 0) (nI 0)) (insN l (ocN N S)) ∧ f_Mo_noteOrder_L16 (n + 4) N 62 (nI 0) (nI 0) (nI 0) 62 30 = nI (s + stk N S) ∧ (∀ q, q ≠ 28 → q ≠ 30 → f_Mo_noteOrder_L16 (n + 4) N 62 (nI 0) (nI 0) (nI 0) 62 q = N 62 q) ∧ ∀ i, i ≠ 62 → i ≠ 86 → f_Mo_noteOrder_L16 (n + 4) N 62 (nI 0) (nI 0) (nI 0) i = N i := by
  have hoc := oc_lt hI
  have r0 := note_t (n := n + 3) (a := 0) (b := 0) hW hP hI hE h3 (t := 0) (by omega) (by omega)
  have r1 := note_t (n := n + 2) (a := 100 * 0 + lrN N S 0) (b := sb 0 (lrN N S 0)) hW hP hI hE h3 (t := 1) (by omega) (sb_le _ _)
  have r2 := note_t (n := n + 1) (a := 100 * (100 * 0 + lrN N S 0) + lrN N S 1) (b := sb (sb 0 (lrN N S 0)) (lrN N S 1)) hW hP hI hE h3 (t := 2) (by omega) (sb_le _ _)
  rw [sb_stk] at r2
  have ee : f_Mo_noteOrder_L16 (n + 4) N 62 (nI 0) (nI 0) (nI 0) = f_Mo_noteOrder_L16 (n + 1) N 62 (nI (ocN N S)) (nI (stk N S)) (nI 3) := r0.1.trans (r1.1.trans r2.1)
  have pp : pre_Mo_noteOrder_L16 (n + 1) N 62 (nI (ocN N S)) (nI (stk N S)) (nI 3) → pre_Mo_noteOrder_L16 (n + 4) N 62 (nI 0) (nI 0) (nI 0) := fun q => r0.2 (r1.2 (r2.2 q))
  have c3 : (3 : Int32) ≤ nI 3 := by decide
  rw [ee, n16_S, if_pos c3]
  have hst : stk N S = 0 ∨ stk N S = 1 := by unfold stk; split <;> omega
  rcases hst with z | z
  · have z' : nI (stk N S) = 0 := by rw [z]; rfl
    have f := m_n65 (x := ocN N S) h hl hoc hs hm
    rw [if_pos z', z]
    exact ⟨pp ((pn16_S _ _ _ _ _).mpr ⟨fun _ => ⟨fun _ => f.1, fun q => absurd z' q⟩, fun q => absurd c3 q⟩), f.2.1, by rw [f.2.2.1 30 (by omega), h6]; rfl, fun q q1 _ => f.2.2.1 q q1, f.2.2.2⟩
  · have z' : ¬ nI (stk N S) = 0 := by rw [z]; decide
    have f := m_n65 (M := cs_up N 62 (upd (N 62) 30 ((N 62 30) + 1))) (x := ocN N S) ⟨h.1, by rw [cs_up_self, up_n (by omega)]; exact h.2⟩ hl hoc hs hm
    rw [if_neg z', z]
    refine ⟨pp ((pn16_S _ _ _ _ _).mpr ⟨fun _ => ⟨fun q => absurd q z', fun _ => f.1⟩, fun q => absurd c3 q⟩), f.2.1, ?_, fun q q1 q2 => ?_, fun i i1 i2 => ?_⟩
    · rw [f.2.2.1 30 (by omega), cs_up_self, up_s, h6, nI_1]
    · rw [f.2.2.1 q q1, cs_up_self, up_n q2]
    · rw [f.2.2.2 i i1 i2, cs_up_ne _ _ i1]
theorem m_noteO {M : cs_Mem} {S : Ms} {o s : Nat} {l : List Nat} (hW : WP M) (hP : PRel M) (hI : InvS M S) (hE : EncM S M) (h3 : mNx M S 0 = 3) (h : FM M l) (hl : l.length ≤ 3000) (hs : l.Pairwise (· < ·)) (hm : ∀ y, y ∈ l → y < 1000000) (h5 : M 62 29 = nI o) (h6 : M 62 30 = nI s) : pre_Mo_noteOrder M 62 ∧ NR M (f_Mo_noteOrder M 62) (insN l (ocN M S)) (o + 1) (s + stk M S) := by
  have pe : PE M (cs_up M 62 (upd (M 62) 29 (nI o + 1))) := fun i hi => cs_up_ne _ _ (by omega)
  have hP1 : PRel (cs_up M 62 (upd (M 62) 29 (nI o + 1))) := prel_of pe (fun i i1 _ => cs_up_ne _ _ (by omega)) (by rw [cs_up_self, up_n (by omega)]) hW hP
  have hE1 : EncM S (cs_up M 62 (upd (M 62) 29 (nI o + 1))) := encM_of pe (fun i hi => cs_up_ne _ _ (by omega)) (by rw [cs_up_self, up_n (by omega)]) hE
  have r := m_noteE (M := M) (n := 3996) (s := s) (pe.wp hW) hP1 (pe.inv hI) hE1 (by rw [pe.nx hI]; exact h3) (l := l) ⟨h.1, by rw [cs_up_self, up_n (by omega)]; exact h.2⟩ hl hs hm (by rw [cs_up_self, up_n (by omega)]; exact h6)
  rw [pe.oc, pe.sk] at r
  have e : f_Mo_noteOrder M 62 = f_Mo_noteOrder_L16 (3996 + 4) (cs_up M 62 (upd (M 62) 29 (nI o + 1))) 62 (nI 0) (nI 0) (nI 0) := by
    unfold f_Mo_noteOrder
    simp only [cs_bd_eq]
    rw [h5]
    rfl
  have ep : pre_Mo_noteOrder M 62 ↔ pre_Mo_noteOrder_L16 (3996 + 4) (cs_up M 62 (upd (M 62) 29 (nI o + 1))) 62 (nI 0) (nI 0) (nI 0) := by
    unfold pre_Mo_noteOrder
    simp only [cs_bd_eq]
    rw [h5]
    exact Iff.rfl
  rw [ep, e]
  obtain ⟨r1, r2, r3, r4, r5⟩ := r
  refine ⟨r1, r2, ?_, r3, fun q q1 q2 q3 => ?_, fun i i1 i2 => ?_⟩
  · rw [r4 29 (by omega) (by omega), cs_up_self, up_s, nI_1]
  · rw [r4 q q1 q3, cs_up_self, up_n q2]
  · rw [r5 i i1 i2, cs_up_ne _ _ i1]
