/-! contracts of the methods behind which the row found may lie elsewhere -/
def cs_gc (a b : Nat) : Nat := if b = a then 0 else 1
def cs_gs (a b : Nat) : Nat := 2 * (b - a)
def cs_Hk (L0 kc ks len : Nat) : Prop := kc * 8 ≤ ks ∧ ks + 2 * L0 ≤ 2 * len ∧ len ≤ 4096
theorem cs_hkR {L0 kc ks len : Nat} (h : cs_Hk L0 kc ks len) : kc + 0 ≤ 1024 ∧ ks + 0 ≤ 8192 := by
  obtain ⟨h1, h2, h3⟩ := h
  omega
theorem cs_hkG {L0 kc ks len len' : Nat} (h : cs_Hk L0 kc ks len) (g : len ≤ len' ∧ len' ≤ 4096 ∧ (¬ len' = len → len + 4 ≤ len')) : cs_Hk L0 (kc + cs_gc len len') (ks + cs_gs len len') len' ∧ (kc + cs_gc len len' ≤ 1024 ∧ ks + cs_gs len len' ≤ 8192) := by
  obtain ⟨h1, h2, h3⟩ := h
  obtain ⟨g1, g2, g3⟩ := g
  unfold cs_Hk cs_gc cs_gs
  split
  · omega
  · have := g3 (by assumption)
    omega
theorem cs_hkE {L0 kc ks len len' : Nat} (e : len' = len) (h : cs_Hk L0 kc ks len) : cs_Hk L0 kc ks len' := by rw [e]; exact h
theorem cs_rmc (a b c d : Nat) : ({ frames := a, cells := b, slots := c, locals := d } : Room).cells = b := rfl
theorem cs_rms (a b c d : Nat) : ({ frames := a, cells := b, slots := c, locals := d } : Room).slots = c := rfl
theorem cs_gc_dbl {a : Nat} (h : 0 < a) : 0 + 1 ≤ cs_gc a (2 * a) := by
  unfold cs_gc
  rw [if_neg (by omega)]
  exact Nat.le_refl _
theorem cs_gs_dbl (a : Nat) : 0 + 2 * a ≤ cs_gs a (2 * a) := by
  unfold cs_gs
  omega
def cs_QvG (D : va_G) (cA : Nat → ClassId) (ad : Nat → Nat) (F : cs_Mem) (A : Nat → Prop) : Array Value → State → Outcome → State → Prop :=
  va_Qv (fun (u : (Nat → Nat) × cs_Mem) => u.2 = F ∧ ∀ i, i ≠ 61 → u.1 i = ad i) (fun u t => cs_B D cA u.1 A u.2 t) A
def cs_QiG (D : va_G) (cA : Nat → ClassId) (ad : Nat → Nat) (F : Int32 × cs_Mem) (A : Nat → Prop) : Array Value → State → Outcome → State → Prop :=
  va_Qi (fun r (u : (Nat → Nat) × (Int32 × cs_Mem)) => u.2 = F ∧ r = u.2.1 ∧ ∀ i, i ≠ 61 → u.1 i = ad i) (fun u t => cs_B D cA u.1 A u.2.2 t) A
def cs_CvG (l : Launch) (y : MethodName) (cc : ByteArray) (nL : Nat) (ret : Option FieldType) (fr lo mc ms : Nat) (D : va_G) (cA : Nat → ClassId) (ad : Nat → Nat) (M : cs_Mem) (av : List Value) (F : cs_Mem) : Prop :=
  ∀ sz, Met l y (Cond.code y cc nL ret :: cs_all) { frames := fr, cells := mc, slots := ms, locals := lo } (cs_Pc D cA ad M av sz) (cs_QvG D cA ad F (cs_A ad sz)) mc ms (cs_A ad sz)
def cs_CiG (l : Launch) (y : MethodName) (cc : ByteArray) (nL : Nat) (ret : Option FieldType) (fr lo mc ms : Nat) (D : va_G) (cA : Nat → ClassId) (ad : Nat → Nat) (M : cs_Mem) (av : List Value) (F : Int32 × cs_Mem) : Prop :=
  ∀ sz, Met l y (Cond.code y cc nL ret :: cs_all) { frames := fr, cells := mc, slots := ms, locals := lo } (cs_Pc D cA ad M av sz) (cs_QiG D cA ad F (cs_A ad sz)) mc ms (cs_A ad sz)
theorem cs_ad_self (ad : Nat → Nat) : cs_ad ad (ad 61) = ad := by
  funext i
  unfold cs_ad
  split
  · next h => rw [h]
  · rfl
theorem cs_dbl {M : cs_Mem} (h : cs_ln M 61 ≤ 50000000) : ¬ (2 * nI (cs_ln M 61) : Int32) < 0 ∧ (2 * nI (cs_ln M 61) : Int32).toNatClampNeg = 2 * cs_ln M 61 := by
  have e : (2 * nI (cs_ln M 61) : Int32) = nI (2 * cs_ln M 61) := pk_mul 2 (cs_ln M 61)
  rw [e]
  exact ⟨nI_pos (by omega), nI_clamp (by omega)⟩
section CSH
variable {p : Program} {l : Launch} {e : Env} {R : Room} {s : State} {m : MethodId} {args : Array Value} {below : List Frame} {meth : Method} {c : Code} {H : Heap} {locs : List Loc} {cells slots : Nat} {Q : State → Prop}
variable {cc : ByteArray} {nL pc index : Nat} {own : String} {ls : Array Slot} {rest st0 : List Value} {D : va_G} {cA : Nat → ClassId} {A : Nat → Prop} {ad : Nat → Nat} {M : cs_Mem}
theorem cs_growstep' (hC : cs_Ctx p s m args c cc nL own D cA A) (hw : cs_Wd D cA ad M A s H locs) (hls : ls.size = nL) {i1 i2 : Nat} (h50 : cs_ln M 61 ≤ 50000000) (h0 : 0 < cs_ln M 61)
    (cw : cs_CwS own i1 ⟨"java/util/Arrays", "copyOf", "([II)[I"⟩ prog_12_method_123_code 3 (some (.array .int)) 2) (hlk : Cond.fieldLink own i2 "ClassStarter$Explorer" "found" "[I" ∈ cs_all) (hR : 1 + 1 ≤ R.frames ∧ 8 + (3 + 11) + 60 ≤ R.locals) (hrest : (rest.map fun v => v.category).sum + 1 ≤ 8) (hf : cells + 1 ≤ R.cells ∧ slots + 2 * cs_ln M 61 ≤ R.slots)
    (hd1 : decode cc pc = .ok (.invokestatic i1, 3)) (hd2 : decode cc (pc + 3) = .ok (.putfield i2, 3))
    (kk : ∀ (ad1 : Nat → Nat) (N : cs_Mem) (H1 : Heap) (locs1 : List Loc), N = cs_grow M (2 * cs_ln M 61) → (∀ i, i ≠ 61 → ad1 i = ad i) → cs_Wd D cA ad1 N A s H1 locs1 → W p l e R s m args below meth c H1 locs1 (cells + 1) (slots + 2 * cs_ln M 61) Q (F0 m (pc + 6) ls rest)) : W p l e R s m args below meth c H locs cells slots Q (F0 m pc ls (.int (2 * nI (cs_ln M 61)) :: .ref (ad 61) :: .ref (ad 55) :: rest)) := by
  have e9 := cs_ad_self ad
  have hw2 : cs_Wd D cA (cs_ad ad (ad 61)) M A s H locs := by rw [e9]; exact hw
  have key := cs_growstep (p := p) (l := l) (e := e) (R := R) (below := below) (meth := meth) (cells := cells) (slots := slots) (Q := Q) (pc := pc) (rest := rest) hC hw2 hls (cs_dbl h50).1 (cs_dbl h50).2 (by omega) (by omega) cw hlk hR hrest hf hd1 hd2 (fun q N H1 locs1 eN hw1 => kk (cs_ad ad q) N H1 locs1 eN (fun i hi => by simp [cs_ad, hi]) hw1)
  rw [e9] at key
  exact key
theorem cs_ret_vG {a : Array Value} {mc ms : Nat} {F : cs_Mem} (hC : cs_Ctx p s m args c cc nL own D cA A) (hw : cs_Wd D cA ad M A s H locs) (hr : va_Run p l e R s m args below meth c H locs cells slots mc ms (F0 m pc ls st0) rest (cs_QvG D cA ad F (cs_A ad H.size) a) (cs_A ad H.size))
    (kk : ∀ (ad1 : Nat → Nat) (u : cs_Mem) (H1 : Heap) (locs1 : List Loc), u = F → (∀ i, i ≠ 61 → ad1 i = ad i) → cs_Wd D cA ad1 u A s H1 locs1 → W p l e R s m args below meth c H1 locs1 (cells + mc) (slots + ms) Q (F0 m (pc + 3) ls rest)) : W p l e R s m args below meth c H locs cells slots Q (F0 m pc ls st0) := by
  refine va_callv hr hw.2.2 (fun q _ h => cs_A_in hC hw q h) (cs_A_in hC hw) (fun u t H1 locs1 ht hvm hp hB hz hk hS => ?_)
  obtain ⟨b1, b2⟩ := hB
  rw [ht] at b1
  exact kk u.1 u.2 H1 locs1 hp.1 hp.2 ⟨b1, cs_D_weaken b2 (cs_A_in hC hw), hS⟩
theorem cs_ret_vGk {a : Array Value} {L0 kc ks : Nat} {F : cs_Mem} (hC : cs_Ctx p s m args c cc nL own D cA A) (hw : cs_Wd D cA ad M A s H locs) (hk : cs_Hk L0 kc ks (cs_ln M 61)) (hg : cs_ln M 61 ≤ cs_ln F 61 ∧ cs_ln F 61 ≤ 4096 ∧ (¬ cs_ln F 61 = cs_ln M 61 → cs_ln M 61 + 4 ≤ cs_ln F 61)) (hr : va_Run p l e R s m args below meth c H locs kc ks (cs_gc (cs_ln M 61) (cs_ln F 61)) (cs_gs (cs_ln M 61) (cs_ln F 61)) (F0 m pc ls st0) rest (cs_QvG D cA ad F (cs_A ad H.size) a) (cs_A ad H.size))
    (kk : ∀ (kc1 ks1 : Nat) (ad1 : Nat → Nat) (u : cs_Mem) (H1 : Heap) (locs1 : List Loc), u = F → (∀ i, i ≠ 61 → ad1 i = ad i) → cs_Wd D cA ad1 u A s H1 locs1 → cs_Hk L0 kc1 ks1 (cs_ln u 61) → W p l e R s m args below meth c H1 locs1 kc1 ks1 Q (F0 m (pc + 3) ls rest)) : W p l e R s m args below meth c H locs kc ks Q (F0 m pc ls st0) :=
  cs_ret_vG hC hw hr (fun ad1 u H1 locs1 eu hab hw1 => kk _ _ ad1 u H1 locs1 eu hab hw1 (by rw [eu]; exact (cs_hkG hk hg).1))
theorem cs_ret_iG {a : Array Value} {mc ms : Nat} {F : Int32 × cs_Mem} (hC : cs_Ctx p s m args c cc nL own D cA A) (hw : cs_Wd D cA ad M A s H locs) (hr : va_Run p l e R s m args below meth c H locs cells slots mc ms (F0 m pc ls st0) rest (cs_QiG D cA ad F (cs_A ad H.size) a) (cs_A ad H.size))
    (kk : ∀ (ad1 : Nat → Nat) (u : Int32 × cs_Mem) (H1 : Heap) (locs1 : List Loc), u = F → (∀ i, i ≠ 61 → ad1 i = ad i) → cs_Wd D cA ad1 u.2 A s H1 locs1 → W p l e R s m args below meth c H1 locs1 (cells + mc) (slots + ms) Q (F0 m (pc + 3) ls (.int u.1 :: rest))) : W p l e R s m args below meth c H locs cells slots Q (F0 m pc ls st0) := by
  refine va_calli hr hw.2.2 (fun q _ h => cs_A_in hC hw q h) (cs_A_in hC hw) (fun r u t H1 locs1 ht hvm hp hB hz hk hS => ?_)
  obtain ⟨e1, e2, e3⟩ := hp
  obtain ⟨b1, b2⟩ := hB
  rw [ht] at b1
  rw [e2]
  exact kk u.1 u.2 H1 locs1 e1 e3 ⟨b1, cs_D_weaken b2 (cs_A_in hC hw), hS⟩
theorem cs_vretG {F : cs_Mem} {ad0 : Nat → Nat} {mc ms : Nat} (hC : cs_Ctx p s m args c cc nL own D cA A) (hw : cs_Wd D cA ad M A s H locs) (hr : meth.sig.returnType = none) (hlk : meth.locks = false) (hf : F = M) (hab : ∀ i, i ≠ 61 → ad i = ad0 i) (hk : cells ≤ mc ∧ slots ≤ ms) (hdg : decode cc pc = .ok (.return_, 1)) :
    W p l e R s m args below meth c H locs cells slots (MQ below (cs_QvG D cA ad0 F A) args s mc ms A) (F0 m pc ls []) :=
  W.widen hk.1 hk.2 (W.vret hC.1 hC.2.1 hr (fun t ht hW => ⟨⟨(ad, F), rfl, ⟨rfl, hab⟩, by rw [hf, ht]; exact hw.1, by rw [hf]; exact hw.2.1⟩, hw.2.2.F ht⟩) hw.2.2.2.2 hdg hlk)
theorem cs_iretG {F : Int32 × cs_Mem} {v : Int32} {ad0 : Nat → Nat} {mc ms : Nat} (hC : cs_Ctx p s m args c cc nL own D cA A) (hw : cs_Wd D cA ad M A s H locs) (hr : meth.sig.returnType = some .int) (hlk : meth.locks = false) (hf : F = (v, M)) (hab : ∀ i, i ≠ 61 → ad i = ad0 i) (hk : cells ≤ mc ∧ slots ≤ ms) (hdg : decode cc pc = .ok (.ireturn, 1)) :
    W p l e R s m args below meth c H locs cells slots (MQ below (cs_QiG D cA ad0 F A) args s mc ms A) (F0 m pc ls [.int v]) :=
  W.widen hk.1 hk.2 (W.iret hC.1 hC.2.1 hr (fun t ht hW => ⟨⟨v, (ad, F), rfl, ⟨rfl, by rw [hf], hab⟩, by rw [hf, ht]; exact hw.1, by rw [hf]; exact hw.2.1⟩, hw.2.2.F ht⟩) hw.2.2.2.2 hdg hlk)
end CSH
