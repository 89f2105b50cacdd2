/-! the abstract memory, its world on the heap, and one row an instruction over it -/
theorem cs_up_self (M : cs_Mem) (j : Nat) (g : Nat → Int32) : cs_up M j g j = g := by simp [cs_up]
theorem cs_up_ne (M : cs_Mem) {i j : Nat} (g : Nat → Int32) (h : i ≠ j) : cs_up M j g i = M i := by simp [cs_up, h]
theorem cs_nz {v : Int32} (h : v = 0 ∨ v = 1) : narrow .boolean (.int v) = .int v := by rcases h with rfl | rfl <;> rfl
theorem cs_fz {v : Int32} (h : v = 0 ∨ v = 1) : fits .boolean (.int v) = true := by rcases h with rfl | rfl <;> rfl
theorem cs_bdE {α β : Type} {v x : α} {k : α → β} {X : β} (e : x = v) (h : X = cs_bd v k) : X = k x := by subst e; exact h
theorem cs_bdP {α : Type} {v x : α} {k : α → Prop} (e : x = v) (h : cs_bd v k) : k x := by subst e; exact h
def cs_sg (cA : Nat → ClassId) (ad : Nat → Nat) (M : cs_Mem) (j : Nat) : va_E := cs_cell (cs_kd j) cA ad (cs_ln M j) (M j) j
def cs_wl (cA : Nat → ClassId) (ad : Nat → Nat) (M : cs_Mem) : va_W := (List.range cs_n).map (fun i => (ad i, cs_sg cA ad M i))
def cs_is (k j : Nat) : Prop := cs_kd j = k ∧ j < cs_n
theorem cs_sg_is {cA : Nat → ClassId} {ad : Nat → Nat} {M : cs_Mem} {k j : Nat} (h : cs_is k j) : cs_sg cA ad M j = cs_cell k cA ad (cs_ln M j) (M j) j := by unfold cs_sg; rw [h.1]
theorem cs_wl_at {cA : Nat → ClassId} {ad : Nat → Nat} {M : cs_Mem} {j : Nat} {e : va_E} (h : j < cs_n) (he : cs_sg cA ad M j = e) : (cs_wl cA ad M)[j]? = some (ad j, e) := by
  unfold cs_wl
  rw [List.getElem?_map, List.getElem?_range h]
  simp [he]
theorem cs_wl_out {cA : Nat → ClassId} {ad : Nat → Nat} {M : cs_Mem} {j : Nat} (h : ¬ j < cs_n) : (cs_wl cA ad M)[j]? = none := by
  unfold cs_wl
  rw [List.getElem?_eq_none]
  simp
  omega
theorem cs_wl_of {cA : Nat → ClassId} {ad : Nat → Nat} {M : cs_Mem} {j : Nat} {q : Nat × va_E} (h : (cs_wl cA ad M)[j]? = some q) : j < cs_n ∧ q = (ad j, cs_sg cA ad M j) := by
  by_cases hj : j < cs_n
  · rw [cs_wl_at hj rfl] at h
    exact ⟨hj, (Option.some.inj h).symm⟩
  · rw [cs_wl_out hj] at h
    cases h
theorem cs_wl_set {cA : Nat → ClassId} {ad : Nat → Nat} {M : cs_Mem} {j : Nat} {g : Nat → Int32} {e : va_E} (h : j < cs_n) (he : cs_cell (cs_kd j) cA ad (cs_ln M j) g j = e) : (cs_wl cA ad M).set j (ad j, e) = cs_wl cA ad (cs_up M j g) := by
  subst he
  apply List.ext_getElem?
  intro i
  by_cases hi : i = j
  · subst hi
    rw [List.getElem?_set_self (by simp [cs_wl, h]), cs_wl_at h rfl]
    simp [cs_sg, cs_up_self, cs_ln_up h]
  · rw [List.getElem?_set_ne (Ne.symm hi)]
    by_cases hn : i < cs_n
    · rw [cs_wl_at hn rfl, cs_wl_at hn rfl]
      simp [cs_sg, cs_up_ne M g hi, cs_ln_up h]
    · rw [cs_wl_out hn, cs_wl_out hn]
/-- the words: those of the tables that a callee may be handed -/
theorem cs_all_good : ∀ w ∈ cs_all, (w.onTables && w.keeps) = true ∨ ∃ ty, w = .arrayClass ty := by
  intro w hw
  have h := (List.mem_filter.mp hw).2
  by_cases hc : k2_isCode w = true
  · cases w <;> first | (simp [k2_isCode] at hc; done) | exact Or.inl rfl
  · have hg : goodWord w = true := by simpa [hc] using h
    exact good_of_word hg
theorem cs_good {c0 c1 : Cond} (h1 : c1 ∈ cs_all) : GoodIn cs_all (c1 :: cs_all) := by
  intro w hw
  rcases List.mem_cons.mp hw with rfl | hw
  · exact ⟨h1, cs_all_good _ h1⟩
  · exact ⟨hw, cs_all_good _ hw⟩
def cs_nest : Cond := .methodLinkNest "ClassStarter$Program" 61 ⟨"ClassStarter", "isThread", "(I)Z"⟩ "ClassStarter"
def cs_A (ad : Nat → Nat) (sz : Nat) : Nat → Prop := fun q => (∃ i, i < cs_n ∧ ad i = q) ∨ sz ≤ q
def cs_Ctx (p : Program) (s : State) (m : MethodId) (args : Array Value) (c : Code) (cc : ByteArray) (nL : Nat) (own : String) (D : va_G) (cA : Nat → ClassId) (A : Nat → Prop) : Prop :=
  p.tables.exec = Jvm.exec ∧ c.code = cc ∧ c.maxLocals = nL ∧ s.vm.findClass own = some m.cls ∧ (∀ w ∈ cs_all, w.before args s = true) ∧ va_K D cs_cl (cs_tys cA) s ∧ (∀ q, s.heap.size ≤ q → A q) ∧ va_Nw cs_nest s
def cs_Wd (D : va_G) (cA : Nat → ClassId) (ad : Nat → Nat) (M : cs_Mem) (A : Nat → Prop) (s : State) (H : Heap) (locs : List Loc) : Prop :=
  va_P D cs_cl (cs_wl cA ad M) H ∧ va_D A (cs_wl cA ad M) ∧ va_S A s.heap H locs
/-- contracts: the start; the ends with an int, a long, nothing, a cell -/
def cs_Pc (D : va_G) (cA : Nat → ClassId) (ad : Nat → Nat) (M : cs_Mem) (av : List Value) (sz : Nat) : Array Value → State → Prop :=
  va_Pc av (fun U => U.heap.size = sz ∧ va_P D cs_cl (cs_wl cA ad M) U.heap ∧ va_K D cs_cl (cs_tys cA) U ∧ va_D (fun _ => True) (cs_wl cA ad M) ∧ va_Nw cs_nest U)
def cs_B (D : va_G) (cA : Nat → ClassId) (ad : Nat → Nat) (A : Nat → Prop) (M : cs_Mem) (t : State) : Prop := va_P D cs_cl (cs_wl cA ad M) t.heap ∧ va_D A (cs_wl cA ad M)
def cs_Qi (D : va_G) (cA : Nat → ClassId) (ad : Nat → Nat) (F : Int32 × cs_Mem) (A : Nat → Prop) : Array Value → State → Outcome → State → Prop :=
  va_Qi (fun r (u : Int32 × cs_Mem) => u = F ∧ r = u.1) (fun u t => cs_B D cA ad A u.2 t) A
def cs_Ql (D : va_G) (cA : Nat → ClassId) (ad : Nat → Nat) (F : Int64 × cs_Mem) (A : Nat → Prop) : Array Value → State → Outcome → State → Prop :=
  va_Ql (fun r (u : Int64 × cs_Mem) => u = F ∧ r = u.1) (fun u t => cs_B D cA ad A u.2 t) A
def cs_Qv (D : va_G) (cA : Nat → ClassId) (ad : Nat → Nat) (F : cs_Mem) (A : Nat → Prop) : Array Value → State → Outcome → State → Prop :=
  va_Qv (fun (u : cs_Mem) => u = F) (fun u t => cs_B D cA ad A u t) A
def cs_Qr (D : va_G) (cA : Nat → ClassId) (ad : Nat → Nat) (F : Nat × cs_Mem) (A : Nat → Prop) : Array Value → State → Outcome → State → Prop :=
  va_Qr (fun (u : Nat × cs_Mem) => u = F) (fun u a t => a = ad u.1 ∧ cs_B D cA ad A u.2 t) A
def cs_Ci (l : Launch) (y : MethodName) (cc : ByteArray) (nL : Nat) (ret : Option FieldType) (rm : Room) (D : va_G) (cA : Nat → ClassId) (ad : Nat → Nat) (M : cs_Mem) (av : List Value) (F : Int32 × cs_Mem) : Prop :=
  ∀ sz, Met l y (Cond.code y cc nL ret :: cs_all) rm (cs_Pc D cA ad M av sz) (cs_Qi D cA ad F (cs_A ad sz)) rm.cells rm.slots (cs_A ad sz)
def cs_Cl (l : Launch) (y : MethodName) (cc : ByteArray) (nL : Nat) (ret : Option FieldType) (rm : Room) (D : va_G) (cA : Nat → ClassId) (ad : Nat → Nat) (M : cs_Mem) (av : List Value) (F : Int64 × cs_Mem) : Prop :=
  ∀ sz, Met l y (Cond.code y cc nL ret :: cs_all) rm (cs_Pc D cA ad M av sz) (cs_Ql D cA ad F (cs_A ad sz)) rm.cells rm.slots (cs_A ad sz)
def cs_Cv (l : Launch) (y : MethodName) (cc : ByteArray) (nL : Nat) (ret : Option FieldType) (rm : Room) (D : va_G) (cA : Nat → ClassId) (ad : Nat → Nat) (M : cs_Mem) (av : List Value) (F : cs_Mem) : Prop :=
  ∀ sz, Met l y (Cond.code y cc nL ret :: cs_all) rm (cs_Pc D cA ad M av sz) (cs_Qv D cA ad F (cs_A ad sz)) rm.cells rm.slots (cs_A ad sz)
def cs_Cr (l : Launch) (y : MethodName) (cc : ByteArray) (nL : Nat) (ret : Option FieldType) (rm : Room) (D : va_G) (cA : Nat → ClassId) (ad : Nat → Nat) (M : cs_Mem) (av : List Value) (F : Nat × cs_Mem) : Prop :=
  ∀ sz, Met l y (Cond.code y cc nL ret :: cs_all) rm (cs_Pc D cA ad M av sz) (cs_Qr D cA ad F (cs_A ad sz)) rm.cells rm.slots (cs_A ad sz)
theorem cs_wl_addr {cA : Nat → ClassId} {ad : Nat → Nat} {M : cs_Mem} {A : Nat → Prop} (hD : va_D A (cs_wl cA ad M)) {i : Nat} (hi : i < cs_n) : A (ad i) := hD.2 i _ (cs_wl_at hi rfl)
theorem cs_D_weaken {cA : Nat → ClassId} {ad : Nat → Nat} {M : cs_Mem} {A B : Nat → Prop} (hD : va_D A (cs_wl cA ad M)) (h : ∀ q, A q → B q) : va_D B (cs_wl cA ad M) := hD.weaken (fun _ q _ ha => h q.1 ha)
theorem cs_D_self {cA : Nat → ClassId} {ad : Nat → Nat} {M : cs_Mem} {A : Nat → Prop} {sz : Nat} (hD : va_D A (cs_wl cA ad M)) : va_D (cs_A ad sz) (cs_wl cA ad M) :=
  ⟨hD.1, fun k q hk => by
    obtain ⟨h1, rfl⟩ := cs_wl_of hk
    exact Or.inl ⟨k, h1, rfl⟩⟩
theorem cs_Pc_blind {D : va_G} {cA : Nat → ClassId} {ad : Nat → Nat} {M : cs_Mem} {av : List Value} {sz : Nat} : FrameBlind (cs_Pc D cA ad M av sz) := fun a U g mk q => by
  obtain ⟨q0, q1, qP, qK, qD, qN⟩ := q
  exact ⟨q0, q1, qP, va_K.moved (u := U) (U := U.calling g mk a) (Vm.Alike.refl U.vm) qK, qD, va_Nw.same rfl rfl qN⟩
/-- from a contract's start to the walk -/
theorem cs_entry {l : Launch} {y : MethodName} {cc : ByteArray} {nL : Nat} {ret : Option FieldType} {rm : Room} {D : va_G} {cA : Nat → ClassId} {ad : Nat → Nat} {M : cs_Mem} {av : List Value} {Qc : (Nat → Prop) → Array Value → State → Outcome → State → Prop} {mc ms : Nat} (hy : plainName y.cls = true) (hn : (lg_sl av).length ≤ nL)
    (body : ∀ (p : Program) (e : Env) (s : State) (m : MethodId) (below : List Frame) (meth : Method) (c : Code) (A : Nat → Prop) (ls : Array Slot), cs_Ctx p s m av.toArray c cc nL y.cls D cA A → meth.sig.returnType = ret → meth.locks = false → (s.methodNamed? y = some m ∧ s.vm.method? m = some meth) → cs_Wd D cA ad M A s s.heap [] → lv_has ls nL (lv_args 0 av) →
      W p l e rm s m av.toArray below meth c s.heap [] 0 0 (MQ below (Qc A) av.toArray s mc ms A) (F0 m 0 ls [])) (sz : Nat) :
    Met l y (Cond.code y cc nL ret :: cs_all) rm (cs_Pc D cA ad M av sz) (Qc (cs_A ad sz)) mc ms (cs_A ad sz) := by
  refine Met.ofW (cc := cc) (maxL := nL) (ret := ret) hy rfl ?_
  intro p e s m args below meth c s₁ B hml hv
  obtain ⟨rfl, hsz, hP, hK, hD0, hN⟩ := hv
  have hts := atoms_spec (ws := Cond.code y cc nL ret :: cs_all) B.pre
  subst hsz
  have hl := lv_entry av (n := nL) hn
  rw [lg_entry_eq]
  generalize (lg_sl av ++ List.replicate (nL - (lg_sl av).length) Slot.unset).toArray = ls at hl ⊢
  exact body p e s m below meth c (cs_A ad s.heap.size) ls ⟨B.exec, B.bytes, hml, findClass_of_methodNamed B.named, fun w h => hts w (List.mem_cons_of_mem _ h), hK, fun q h => Or.inr h, hN⟩ B.returns B.notSynchronized ⟨B.named, B.method⟩ ⟨hP, cs_D_self hD0, va_S.rf⟩ hl
section CSW
variable {p : Program} {l : Launch} {e : Env} {R : Room} {s : State} {m : MethodId} {args : Array Value} {below : List Frame} {meth : Method} {c : Code} {H : Heap} {locs : List Loc} {cells slots : Nat} {Q : State → Prop}
variable {cc : ByteArray} {nL pc : Nat} {own : String} {ls : Array Slot} {rest : List Value} {D : va_G} {cA : Nat → ClassId} {A : Nat → Prop} {ad : Nat → Nat} {M : cs_Mem} {J : Nat}
theorem cs_Wd.set {g : Nat → Int32} {ex : va_E} {H1 : Heap} {locs1 : List Loc} (hJ : J < cs_n) (he : cs_cell (cs_kd J) cA ad (cs_ln M J) g J = ex) (hP : va_P D cs_cl ((cs_wl cA ad M).set J (ad J, ex)) H1) (hD : va_D A ((cs_wl cA ad M).set J (ad J, ex))) (hS : va_S A s.heap H1 locs1) : cs_Wd D cA ad (cs_up M J g) A s H1 locs1 := by
  rw [cs_wl_set hJ he] at hP hD
  exact ⟨hP, hD, hS⟩
theorem cs_iald (hC : cs_Ctx p s m args c cc nL own D cA A) (hw : cs_Wd D cA ad M A s H locs) (hj : cs_is 20 J) {i : Int32} (hi : vp_in i (cs_ln M J)) (hdg : decode cc pc = .ok (.iaload, 1))
    (kk : W p l e R s m args below meth c H locs cells slots Q (F0 m (pc + 1) ls (.int (M J i.toNatClampNeg) :: rest))) : W p l e R s m args below meth c H locs cells slots Q (F0 m pc ls (.int i :: .ref (ad J) :: rest)) :=
  va_iald hC.1 hC.2.1 hC.2.2.2.2.2.1 hw.1 J 0 (cs_wl_at hj.2 (cs_sg_is hj)) rfl hi hdg kk
theorem cs_zald (hC : cs_Ctx p s m args c cc nL own D cA A) (hw : cs_Wd D cA ad M A s H locs) (hj : cs_is 21 J) {i : Int32} (hi : vp_in i (cs_ln M J)) (hdg : decode cc pc = .ok (.baload, 1))
    (kk : W p l e R s m args below meth c H locs cells slots Q (F0 m (pc + 1) ls (.int (M J i.toNatClampNeg) :: rest))) : W p l e R s m args below meth c H locs cells slots Q (F0 m pc ls (.int i :: .ref (ad J) :: rest)) :=
  va_zald hC.1 hC.2.1 hC.2.2.2.2.2.1 hw.1 J 1 (cs_wl_at hj.2 (cs_sg_is hj)) rfl hi hdg kk
theorem cs_iast (hC : cs_Ctx p s m args c cc nL own D cA A) (hw : cs_Wd D cA ad M A s H locs) (hj : cs_is 20 J) {i x : Int32} (hi : vp_in i (cs_ln M J)) (hdg : decode cc pc = .ok (.iastore, 1))
    (kk : ∀ (N : cs_Mem) (H1 : Heap) (locs1 : List Loc), N = cs_up M J (upd (M J) i.toNatClampNeg x) → cs_Wd D cA ad N A s H1 locs1 → W p l e R s m args below meth c H1 locs1 cells slots Q (F0 m (pc + 1) ls rest)) : W p l e R s m args below meth c H locs cells slots Q (F0 m pc ls (.int x :: .int i :: .ref (ad J) :: rest)) :=
  va_iast hC.1 hC.2.1 hC.2.2.2.2.2.1 hw.1 hw.2.1 hw.2.2 J 0 (cs_wl_at hj.2 (cs_sg_is hj)) rfl hi hdg (fun H1 locs1 hP hD hS => kk _ H1 locs1 rfl (cs_Wd.set hj.2 (by rw [hj.1]; rfl) hP hD hS))
theorem cs_zast (hC : cs_Ctx p s m args c cc nL own D cA A) (hw : cs_Wd D cA ad M A s H locs) (hj : cs_is 21 J) {i x : Int32} (hi : vp_in i (cs_ln M J)) (hdg : decode cc pc = .ok (.bastore, 1))
    (kk : ∀ (N : cs_Mem) (H1 : Heap) (locs1 : List Loc), N = cs_up M J (upd (M J) i.toNatClampNeg (vp_nar .boolean x)) → cs_Wd D cA ad N A s H1 locs1 → W p l e R s m args below meth c H1 locs1 cells slots Q (F0 m (pc + 1) ls rest)) : W p l e R s m args below meth c H locs cells slots Q (F0 m pc ls (.int x :: .int i :: .ref (ad J) :: rest)) :=
  va_zast hC.1 hC.2.1 hC.2.2.2.2.2.1 hw.1 hw.2.1 hw.2.2 J 1 (cs_wl_at hj.2 (cs_sg_is hj)) rfl hi hdg (fun H1 locs1 hP hD hS => kk _ H1 locs1 rfl (cs_Wd.set hj.2 (by rw [hj.1]; rfl) hP hD hS))
theorem cs_ialen (hC : cs_Ctx p s m args c cc nL own D cA A) (hw : cs_Wd D cA ad M A s H locs) (hj : cs_is 20 J) (hdg : decode cc pc = .ok (.arraylength, 1))
    (kk : W p l e R s m args below meth c H locs cells slots Q (F0 m (pc + 1) ls (.int (nI (cs_ln M J)) :: rest))) : W p l e R s m args below meth c H locs cells slots Q (F0 m pc ls (.ref (ad J) :: rest)) :=
  va_alen hC.1 hC.2.1 hC.2.2.2.2.2.1 hw.1 J 0 (cs_wl_at hj.2 (cs_sg_is hj)) rfl rfl hdg kk
/-- System.arraycopy between two rows of ints -/
theorem cs_icpy {J1 : Nat} (hC : cs_Ctx p s m args c cc nL own D cA A) (hw : cs_Wd D cA ad M A s H locs) (hls : ls.size = nL) (hj : cs_is 20 J) (hj1 : cs_is 20 J1) {index : Nat} (hlk : Cond.methodLink own index arraycopyName ∈ cs_all) (hnt : Cond.native arraycopyName ∈ cs_all) (hst : Cond.static arraycopyName ∈ cs_all) (hin : Cond.initialized "java/lang/System" ∈ cs_all) {sp dp n : Int32}
    (h1 : ¬ sp < 0) (h2 : ¬ dp < 0) (h3 : ¬ n < 0) (h4 : sp.toNatClampNeg + n.toNatClampNeg ≤ cs_ln M J) (h5 : dp.toNatClampNeg + n.toNatClampNeg ≤ cs_ln M J1)
    (hfr : 1 ≤ R.frames) (hlo : (rest.map fun v => v.category).sum + (nativeFrameWords "java/lang/System" "arraycopy" 5 + 11) ≤ R.locals) (hdg : decode cc pc = .ok (.invokestatic index, 3))
    (kk : ∀ (N : cs_Mem) (H1 : Heap) (locs1 : List Loc), N = cs_up M J1 (va_cpy (M J) (M J1) sp.toNatClampNeg dp.toNatClampNeg n.toNatClampNeg) → cs_Wd D cA ad N A s H1 locs1 → W p l e R s m args below meth c H1 locs1 cells slots Q (F0 m (pc + 3) ls rest)) : W p l e R s m args below meth c H locs cells slots Q (F0 m pc ls (.int n :: .int dp :: .ref (ad J1) :: .int sp :: .ref (ad J) :: rest)) :=
  va_copyi hC.1 hC.2.1 (hC.2.2.1.trans hls.symm) hC.2.2.2.1 (hC.2.2.2.2.1 _ hlk) (hC.2.2.2.2.1 _ hnt) (hC.2.2.2.2.1 _ hst) (hC.2.2.2.2.1 _ hin) hC.2.2.2.2.2.1 hw.1 hw.2.1 hw.2.2 J J1 0 0 (ty := .int) (cs_wl_at hj.2 (cs_sg_is hj)) (cs_wl_at hj1.2 (cs_sg_is hj1)) rfl rfl rfl h1 h2 h3 h4 h5 (fun _ _ => rfl) hfr hlo hdg
    (fun H1 locs1 hP hD hS => kk _ H1 locs1 rfl (cs_Wd.set hj1.2 (by rw [hj1.1]; rfl) hP hD hS))
/-- the words of a call -/
def cs_CwV (own : String) (index : Nat) (C : String) (y : MethodName) (cc : ByteArray) (nL : Nat) (ret : Option FieldType) (n : Nat) : Prop :=
  Cond.methodLink own index y ∈ cs_all ∧ Cond.instanceMethod y ∈ cs_all ∧ Cond.selects C y y ∈ cs_all ∧ Cond.initialized C ∈ cs_all ∧ Cond.code y cc nL ret ∈ cs_all ∧
  (y.cls = C ∧ y.cls ≠ "java/lang/invoke/MethodHandle" ∧ y.cls ≠ "java/lang/invoke/VarHandle" ∧ (parseMethodDescriptor y.desc).map (fun d => d.parameters.length) = some n)
def cs_CwS (own : String) (index : Nat) (y : MethodName) (cc : ByteArray) (nL : Nat) (ret : Option FieldType) (n : Nat) : Prop :=
  Cond.methodLink own index y ∈ cs_all ∧ Cond.static y ∈ cs_all ∧ Cond.initialized y.cls ∈ cs_all ∧ Cond.code y cc nL ret ∈ cs_all ∧
  (y.cls ≠ "java/lang/invoke/MethodHandle" ∧ y.cls ≠ "java/lang/invoke/VarHandle" ∧ (parseMethodDescriptor y.desc).map (fun d => d.parameters.length) = some n)
variable {y : MethodName} {bytes : ByteArray} {maxL n index : Nat} {ret : Option FieldType} {rm : Room} {As st0 : List Value} {C : String}
theorem cs_runV {ci : Nat} {q : vw_C} {fs : List Value} {Qc : Array Value → State → Outcome → State → Prop} {mc ms : Nat} {free : Addr → Prop} (hC : cs_Ctx p s m args c cc nL own D cA A) (hw : cs_Wd D cA ad M A s H locs) (hJ : J < cs_n) (hc : cs_cl[ci]? = some q) (hq : q.1 = C) (he : cs_sg cA ad M J = .inr (ci, fs))
    (hM : Met l y (Cond.code y bytes maxL ret :: cs_all) rm (cs_Pc D cA ad M (.ref (ad J) :: As) H.size) Qc mc ms free) (hmc : rm.cells = mc) (hms : rm.slots = ms) (cw : cs_CwV own index C y bytes maxL ret n) (hR : rm.frames + 1 ≤ R.frames ∧ 8 + (maxL + 11) + rm.locals ≤ R.locals)
    (hls : ls.size = nL) (hn : As.length = n) (hst : st0 = As.reverse ++ .ref (ad J) :: rest) (hrest : (rest.map fun v => v.category).sum ≤ 8) (hdg : decode cc pc = .ok (.invokevirtual index, 3)) (hf : cells + mc ≤ R.cells ∧ slots + ms ≤ R.slots) :
    va_Run p l e R s m args below meth c H locs cells slots mc ms (F0 m pc ls st0) rest (Qc (Value.ref (ad J) :: As).toArray) free := by
  subst hq
  obtain ⟨w1, w2, w3, w4, w5, w6⟩ := cw
  obtain ⟨hx, hb, hml, hown, hts, hK, hA, hN⟩ := hC
  obtain ⟨hP, hD, hS⟩ := hw
  refine va_runV (Ts := cs_all) ⟨hx, hb, hml, hown, hts⟩ hM (cwV n hts ?_ rfl hmc hms w6 hR) ⟨cs_Pc_blind, va_recv hK hP hc (cs_wl_at hJ he), fun U hU hW => ⟨rfl, by rw [hU], by rw [hU]; exact hP, va_K.moved hW.alike hK, cs_D_weaken hD (fun _ _ => trivial), va_Nw.warmM hW hN⟩⟩ rfl hn hls hst (lv_room hrest) hdg hf
  intro w hw2
  rcases List.mem_append.mp hw2 with h | h
  · simp only [List.mem_cons, List.not_mem_nil, or_false] at h
    rcases h with rfl | rfl | rfl | rfl
    · exact ⟨w1, cs_all_good _ w1⟩
    · exact ⟨w2, cs_all_good _ w2⟩
    · exact ⟨w3, cs_all_good _ w3⟩
    · exact ⟨w4, cs_all_good _ w4⟩
  · exact cs_good (c0 := Cond.tt) w5 w h
theorem cs_runS {Qc : Array Value → State → Outcome → State → Prop} {mc ms : Nat} {free : Addr → Prop} (hC : cs_Ctx p s m args c cc nL own D cA A) (hw : cs_Wd D cA ad M A s H locs)
    (hM : Met l y (Cond.code y bytes maxL ret :: cs_all) rm (cs_Pc D cA ad M As H.size) Qc mc ms free) (hmc : rm.cells = mc) (hms : rm.slots = ms) (cw : cs_CwS own index y bytes maxL ret n) (hR : rm.frames + 1 ≤ R.frames ∧ 8 + (maxL + 11) + rm.locals ≤ R.locals)
    (hls : ls.size = nL) (hn : As.length = n) (hst : st0 = As.reverse ++ rest) (hrest : (rest.map fun v => v.category).sum ≤ 8) (hdg : decode cc pc = .ok (.invokestatic index, 3)) (hf : cells + mc ≤ R.cells ∧ slots + ms ≤ R.slots) :
    va_Run p l e R s m args below meth c H locs cells slots mc ms (F0 m pc ls st0) rest (Qc As.toArray) free := by
  obtain ⟨w1, w2, w3, w5, w6⟩ := cw
  obtain ⟨hx, hb, hml, hown, hts, hK, hA, hN⟩ := hC
  obtain ⟨hP, hD, hS⟩ := hw
  exact va_runS (Ts := cs_all) ⟨hx, hb, hml, hown, hts⟩ hM ⟨callB_of n hts (cs_good (c0 := Cond.tt) w5) rfl hmc hms (hts _ w3) (hts _ w1) w6 hR, hts _ w2⟩ ⟨cs_Pc_blind, fun U hU hW => ⟨rfl, by rw [hU], by rw [hU]; exact hP, va_K.moved hW.alike hK, cs_D_weaken hD (fun _ _ => trivial), va_Nw.warmM hW hN⟩⟩ rfl hn hls hst (lv_room hrest) hdg hf
def cs_CwN (own : String) (index : Nat) (y : MethodName) (host : String) (cc : ByteArray) (nL : Nat) (ret : Option FieldType) (n : Nat) : Prop :=
  Cond.methodLinkNest own index y host = cs_nest ∧ Cond.static y ∈ cs_all ∧ Cond.initialized y.cls ∈ cs_all ∧ Cond.code y cc nL ret ∈ cs_all ∧
  (y.cls ≠ "java/lang/invoke/MethodHandle" ∧ y.cls ≠ "java/lang/invoke/VarHandle" ∧ (parseMethodDescriptor y.desc).map (fun d => d.parameters.length) = some n)
theorem cs_runSN {host : String} {Qc : Array Value → State → Outcome → State → Prop} {mc ms : Nat} {free : Addr → Prop} (hC : cs_Ctx p s m args c cc nL own D cA A) (hw : cs_Wd D cA ad M A s H locs)
    (hM : Met l y (Cond.code y bytes maxL ret :: cs_all) rm (cs_Pc D cA ad M As H.size) Qc mc ms free) (hmc : rm.cells = mc) (hms : rm.slots = ms) (cw : cs_CwN own index y host bytes maxL ret n) (hR : rm.frames + 1 ≤ R.frames ∧ 8 + (maxL + 11) + rm.locals ≤ R.locals)
    (hls : ls.size = nL) (hn : As.length = n) (hst : st0 = As.reverse ++ rest) (hrest : (rest.map fun v => v.category).sum ≤ 8) (hdg : decode cc pc = .ok (.invokestatic index, 3)) (hf : cells + mc ≤ R.cells ∧ slots + ms ≤ R.slots) :
    va_Run p l e R s m args below meth c H locs cells slots mc ms (F0 m pc ls st0) rest (Qc As.toArray) free := by
  obtain ⟨w1, w2, w3, w5, w6⟩ := cw
  obtain ⟨hx, hb, hml, hown, hts, hK, hA, hN⟩ := hC
  obtain ⟨hP, hD, hS⟩ := hw
  exact va_runSN (Ts := cs_all) ⟨hx, hb, hml, hown, hts⟩ hM ⟨va_cnB (host := host) n hts (cs_good (c0 := Cond.tt) w5) rfl hmc hms (w1 ▸ hN) (hts _ w3) w6 hR, hts _ w2, trivial⟩ ⟨cs_Pc_blind, fun U hU hW => ⟨rfl, by rw [hU], by rw [hU]; exact hP, va_K.moved hW.alike hK, cs_D_weaken hD (fun _ _ => trivial), va_Nw.warmM hW hN⟩⟩ rfl hn hls hst (lv_room hrest) hdg hf
theorem cs_A_in (hC : cs_Ctx p s m args c cc nL own D cA A) (hw : cs_Wd D cA ad M A s H locs) : ∀ q, cs_A ad H.size q → A q := by
  intro q h
  rcases h with ⟨i, hi, rfl⟩ | h
  · exact cs_wl_addr hw.2.1 hi
  · exact hC.2.2.2.2.2.2.1 q (Nat.le_trans hw.2.2.1 h)
theorem cs_ret_i {a : Array Value} {F : Int32 × cs_Mem} (hC : cs_Ctx p s m args c cc nL own D cA A) (hw : cs_Wd D cA ad M A s H locs) (hr : va_Run p l e R s m args below meth c H locs cells slots 0 0 (F0 m pc ls st0) rest (cs_Qi D cA ad F (cs_A ad H.size) a) (cs_A ad H.size))
    (kk : ∀ (u : Int32 × cs_Mem) (H1 : Heap) (locs1 : List Loc), u = F → cs_Wd D cA ad u.2 A s H1 locs1 → W p l e R s m args below meth c H1 locs1 cells slots Q (F0 m (pc + 3) ls (.int u.1 :: rest))) : W p l e R s m args below meth c H locs cells slots Q (F0 m pc ls st0) := by
  refine va_calli hr hw.2.2 (fun q _ h => cs_A_in hC hw q h) (cs_A_in hC hw) (fun r u t H1 locs1 ht hvm hp hB hz hk hS => ?_)
  obtain ⟨e1, e2⟩ := hp
  obtain ⟨b1, b2⟩ := hB
  rw [ht] at b1
  rw [e2]
  exact kk u H1 locs1 e1 ⟨b1, cs_D_weaken b2 (cs_A_in hC hw), hS⟩
theorem cs_ret_p {a : Array Value} {f : Int32} (hC : cs_Ctx p s m args c cc nL own D cA A) (hw : cs_Wd D cA ad M A s H locs) (hr : va_Run p l e R s m args below meth c H locs cells slots 0 0 (F0 m pc ls st0) rest (cs_Qi D cA ad (f, M) (cs_A ad H.size) a) (cs_A ad H.size))
    (kk : ∀ (u : Int32) (H1 : Heap) (locs1 : List Loc), u = f → cs_Wd D cA ad M A s H1 locs1 → W p l e R s m args below meth c H1 locs1 cells slots Q (F0 m (pc + 3) ls (.int u :: rest))) : W p l e R s m args below meth c H locs cells slots Q (F0 m pc ls st0) :=
  cs_ret_i hC hw hr (fun u H1 locs1 hu hw1 => by subst hu; exact kk f H1 locs1 rfl hw1)
theorem cs_ret_l {a : Array Value} {F : Int64 × cs_Mem} (hC : cs_Ctx p s m args c cc nL own D cA A) (hw : cs_Wd D cA ad M A s H locs) (hr : va_Run p l e R s m args below meth c H locs cells slots 0 0 (F0 m pc ls st0) rest (cs_Ql D cA ad F (cs_A ad H.size) a) (cs_A ad H.size))
    (kk : ∀ (u : Int64 × cs_Mem) (H1 : Heap) (locs1 : List Loc), u = F → cs_Wd D cA ad u.2 A s H1 locs1 → W p l e R s m args below meth c H1 locs1 cells slots Q (F0 m (pc + 3) ls (.long u.1 :: rest))) : W p l e R s m args below meth c H locs cells slots Q (F0 m pc ls st0) := by
  refine va_calll hr hw.2.2 (fun q _ h => cs_A_in hC hw q h) (cs_A_in hC hw) (fun r u t H1 locs1 ht hvm hp hB hz hk hS => ?_)
  obtain ⟨e1, e2⟩ := hp
  obtain ⟨b1, b2⟩ := hB
  rw [ht] at b1
  rw [e2]
  exact kk u H1 locs1 e1 ⟨b1, cs_D_weaken b2 (cs_A_in hC hw), hS⟩
theorem cs_ret_lp {a : Array Value} {f : Int64} (hC : cs_Ctx p s m args c cc nL own D cA A) (hw : cs_Wd D cA ad M A s H locs) (hr : va_Run p l e R s m args below meth c H locs cells slots 0 0 (F0 m pc ls st0) rest (cs_Ql D cA ad (f, M) (cs_A ad H.size) a) (cs_A ad H.size))
    (kk : ∀ (u : Int64) (H1 : Heap) (locs1 : List Loc), u = f → cs_Wd D cA ad M A s H1 locs1 → W p l e R s m args below meth c H1 locs1 cells slots Q (F0 m (pc + 3) ls (.long u :: rest))) : W p l e R s m args below meth c H locs cells slots Q (F0 m pc ls st0) :=
  cs_ret_l hC hw hr (fun u H1 locs1 hu hw1 => by subst hu; exact kk f H1 locs1 rfl hw1)
theorem cs_ret_v {a : Array Value} {F : cs_Mem} (hC : cs_Ctx p s m args c cc nL own D cA A) (hw : cs_Wd D cA ad M A s H locs) (hr : va_Run p l e R s m args below meth c H locs cells slots 0 0 (F0 m pc ls st0) rest (cs_Qv D cA ad F (cs_A ad H.size) a) (cs_A ad H.size))
    (kk : ∀ (u : cs_Mem) (H1 : Heap) (locs1 : List Loc), u = F → cs_Wd D cA ad u A s H1 locs1 → W p l e R s m args below meth c H1 locs1 cells slots Q (F0 m (pc + 3) ls rest)) : W p l e R s m args below meth c H locs cells slots Q (F0 m pc ls st0) := by
  refine va_callv hr hw.2.2 (fun q _ h => cs_A_in hC hw q h) (cs_A_in hC hw) (fun u t H1 locs1 ht hvm hp hB hz hk hS => ?_)
  obtain ⟨b1, b2⟩ := hB
  rw [ht] at b1
  exact kk u H1 locs1 hp ⟨b1, cs_D_weaken b2 (cs_A_in hC hw), hS⟩
theorem cs_ret_rp {a : Array Value} {f : Nat} (hC : cs_Ctx p s m args c cc nL own D cA A) (hw : cs_Wd D cA ad M A s H locs) (hr : va_Run p l e R s m args below meth c H locs cells slots 0 0 (F0 m pc ls st0) rest (cs_Qr D cA ad (f, M) (cs_A ad H.size) a) (cs_A ad H.size))
    (kk : ∀ (u : Nat) (H1 : Heap) (locs1 : List Loc), u = f → cs_Wd D cA ad M A s H1 locs1 → W p l e R s m args below meth c H1 locs1 cells slots Q (F0 m (pc + 3) ls (.ref (ad u) :: rest))) : W p l e R s m args below meth c H locs cells slots Q (F0 m pc ls st0) := by
  refine va_callr hr hw.2.2 (fun q _ h => cs_A_in hC hw q h) (cs_A_in hC hw) (fun u ra t H1 locs1 ht hvm hp hB hz hk hS => ?_)
  subst hp
  obtain ⟨rfl, b1, b2⟩ := hB
  rw [ht] at b1
  exact kk _ H1 locs1 rfl ⟨b1, cs_D_weaken b2 (cs_A_in hC hw), hS⟩
/-- the ends -/
theorem cs_iret {F : Int32 × cs_Mem} {v : Int32} (hC : cs_Ctx p s m args c cc nL own D cA A) (hw : cs_Wd D cA ad M A s H locs) (hr : meth.sig.returnType = some .int) (hlk : meth.locks = false) (hf : F = (v, M)) (hdg : decode cc pc = .ok (.ireturn, 1)) :
    W p l e R s m args below meth c H locs cells slots (MQ below (cs_Qi D cA ad F A) args s cells slots A) (F0 m pc ls [.int v]) :=
  W.iret hC.1 hC.2.1 hr (fun t ht hW => ⟨⟨v, F, rfl, ⟨rfl, by rw [hf]⟩, by rw [hf, ht]; exact hw.1, by rw [hf]; exact hw.2.1⟩, hw.2.2.F ht⟩) hw.2.2.2.2 hdg hlk
theorem cs_zret {F : Int32 × cs_Mem} {v : Int32} (hC : cs_Ctx p s m args c cc nL own D cA A) (hw : cs_Wd D cA ad M A s H locs) (hr : meth.sig.returnType = some .boolean) (hlk : meth.locks = false) (hv : v = 0 ∨ v = 1) (hf : F = (v, M)) (hdg : decode cc pc = .ok (.ireturn, 1)) :
    W p l e R s m args below meth c H locs cells slots (MQ below (cs_Qi D cA ad F A) args s cells slots A) (F0 m pc ls [.int v]) :=
  W.zret hC.1 hC.2.1 hr (cs_nz hv) (fun t ht hW => ⟨⟨v, F, rfl, ⟨rfl, by rw [hf]⟩, by rw [hf, ht]; exact hw.1, by rw [hf]; exact hw.2.1⟩, hw.2.2.F ht⟩) hw.2.2.2.2 hdg hlk
theorem cs_lret {F : Int64 × cs_Mem} {v : Int64} (hC : cs_Ctx p s m args c cc nL own D cA A) (hw : cs_Wd D cA ad M A s H locs) (hr : meth.sig.returnType = some .long) (hlk : meth.locks = false) (hf : F = (v, M)) (hdg : decode cc pc = .ok (.lreturn, 1)) :
    W p l e R s m args below meth c H locs cells slots (MQ below (cs_Ql D cA ad F A) args s cells slots A) (F0 m pc ls [.long v]) :=
  W.lret hC.1 hC.2.1 hr (fun t ht hW => ⟨⟨v, F, rfl, ⟨rfl, by rw [hf]⟩, by rw [hf, ht]; exact hw.1, by rw [hf]; exact hw.2.1⟩, hw.2.2.F ht⟩) hw.2.2.2.2 hdg hlk
theorem cs_vret {F : cs_Mem} (hC : cs_Ctx p s m args c cc nL own D cA A) (hw : cs_Wd D cA ad M A s H locs) (hr : meth.sig.returnType = none) (hlk : meth.locks = false) (hf : F = M) (hdg : decode cc pc = .ok (.return_, 1)) :
    W p l e R s m args below meth c H locs cells slots (MQ below (cs_Qv D cA ad F A) args s cells slots A) (F0 m pc ls []) :=
  W.vret hC.1 hC.2.1 hr (fun t ht hW => ⟨⟨F, rfl, rfl, by rw [hf, ht]; exact hw.1, by rw [hf]; exact hw.2.1⟩, hw.2.2.F ht⟩) hw.2.2.2.2 hdg hlk
theorem cs_aret {F : Nat × cs_Mem} {v : Nat} {rt : FieldType} (hC : cs_Ctx p s m args c cc nL own D cA A) (hw : cs_Wd D cA ad M A s H locs) (hr : meth.sig.returnType = some rt) (hrt : (∃ n, rt = .object n) ∨ ∃ t, rt = .array t) (hlk : meth.locks = false) (hf : F = (v, M)) (hdg : decode cc pc = .ok (.areturn, 1)) :
    W p l e R s m args below meth c H locs cells slots (MQ below (cs_Qr D cA ad F A) args s cells slots A) (F0 m pc ls [.ref (ad v)]) :=
  W.aret hC.1 hC.2.1 hr hrt (Or.inr ⟨_, rfl⟩) (fun t ht hW => ⟨⟨F, ad v, rfl, rfl, by rw [hf], by rw [hf, ht]; exact hw.1, by rw [hf]; exact hw.2.1⟩, hw.2.2.F ht⟩) hw.2.2.2.2 hdg hlk
end CSW
theorem is_0 : cs_is 0 0 := ⟨rfl, by decide⟩
theorem is_1 : cs_is 1 1 := ⟨rfl, by decide⟩
theorem is_2 : cs_is 21 2 := ⟨rfl, by decide⟩
theorem is_3 : cs_is 21 3 := ⟨rfl, by decide⟩
theorem is_4 : cs_is 20 4 := ⟨rfl, by decide⟩
theorem is_5 : cs_is 20 5 := ⟨rfl, by decide⟩
theorem is_6 : cs_is 20 6 := ⟨rfl, by decide⟩
theorem is_7 : cs_is 22 7 := ⟨rfl, by decide⟩
theorem is_8 : cs_is 2 8 := ⟨rfl, by decide⟩
theorem is_9 : cs_is 20 9 := ⟨rfl, by decide⟩
theorem is_10 : cs_is 20 10 := ⟨rfl, by decide⟩
theorem is_11 : cs_is 20 11 := ⟨rfl, by decide⟩
theorem is_12 : cs_is 2 12 := ⟨rfl, by decide⟩
theorem is_13 : cs_is 20 13 := ⟨rfl, by decide⟩
theorem is_14 : cs_is 20 14 := ⟨rfl, by decide⟩
theorem is_15 : cs_is 20 15 := ⟨rfl, by decide⟩
theorem is_16 : cs_is 2 16 := ⟨rfl, by decide⟩
theorem is_17 : cs_is 20 17 := ⟨rfl, by decide⟩
theorem is_18 : cs_is 20 18 := ⟨rfl, by decide⟩
theorem is_19 : cs_is 20 19 := ⟨rfl, by decide⟩
theorem is_20 : cs_is 2 20 := ⟨rfl, by decide⟩
theorem is_21 : cs_is 20 21 := ⟨rfl, by decide⟩
theorem is_22 : cs_is 20 22 := ⟨rfl, by decide⟩
theorem is_23 : cs_is 20 23 := ⟨rfl, by decide⟩
theorem is_24 : cs_is 2 24 := ⟨rfl, by decide⟩
theorem is_25 : cs_is 20 25 := ⟨rfl, by decide⟩
theorem is_26 : cs_is 20 26 := ⟨rfl, by decide⟩
theorem is_27 : cs_is 20 27 := ⟨rfl, by decide⟩
theorem is_28 : cs_is 2 28 := ⟨rfl, by decide⟩
theorem is_29 : cs_is 20 29 := ⟨rfl, by decide⟩
theorem is_30 : cs_is 20 30 := ⟨rfl, by decide⟩
theorem is_31 : cs_is 20 31 := ⟨rfl, by decide⟩
theorem is_32 : cs_is 2 32 := ⟨rfl, by decide⟩
theorem is_33 : cs_is 20 33 := ⟨rfl, by decide⟩
theorem is_34 : cs_is 20 34 := ⟨rfl, by decide⟩
theorem is_35 : cs_is 20 35 := ⟨rfl, by decide⟩
theorem is_36 : cs_is 2 36 := ⟨rfl, by decide⟩
theorem is_37 : cs_is 20 37 := ⟨rfl, by decide⟩
theorem is_38 : cs_is 20 38 := ⟨rfl, by decide⟩
theorem is_39 : cs_is 20 39 := ⟨rfl, by decide⟩
theorem is_40 : cs_is 2 40 := ⟨rfl, by decide⟩
theorem is_41 : cs_is 20 41 := ⟨rfl, by decide⟩
theorem is_42 : cs_is 20 42 := ⟨rfl, by decide⟩
theorem is_43 : cs_is 20 43 := ⟨rfl, by decide⟩
theorem is_44 : cs_is 2 44 := ⟨rfl, by decide⟩
theorem is_45 : cs_is 20 45 := ⟨rfl, by decide⟩
theorem is_46 : cs_is 20 46 := ⟨rfl, by decide⟩
theorem is_47 : cs_is 20 47 := ⟨rfl, by decide⟩
theorem is_48 : cs_is 2 48 := ⟨rfl, by decide⟩
theorem is_49 : cs_is 20 49 := ⟨rfl, by decide⟩
theorem is_50 : cs_is 20 50 := ⟨rfl, by decide⟩
theorem is_51 : cs_is 20 51 := ⟨rfl, by decide⟩
theorem is_52 : cs_is 3 52 := ⟨rfl, by decide⟩
theorem is_53 : cs_is 20 53 := ⟨rfl, by decide⟩
theorem is_54 : cs_is 20 54 := ⟨rfl, by decide⟩
theorem is_55 : cs_is 4 55 := ⟨rfl, by decide⟩
theorem is_56 : cs_is 3 56 := ⟨rfl, by decide⟩
theorem is_57 : cs_is 20 57 := ⟨rfl, by decide⟩
theorem is_58 : cs_is 20 58 := ⟨rfl, by decide⟩
theorem is_59 : cs_is 20 59 := ⟨rfl, by decide⟩
theorem is_60 : cs_is 20 60 := ⟨rfl, by decide⟩
theorem is_61 : cs_is 20 61 := ⟨rfl, by decide⟩
theorem is_62 : cs_is 5 62 := ⟨rfl, by decide⟩
theorem is_63 : cs_is 20 63 := ⟨rfl, by decide⟩
theorem is_64 : cs_is 20 64 := ⟨rfl, by decide⟩
theorem is_65 : cs_is 20 65 := ⟨rfl, by decide⟩
theorem is_66 : cs_is 20 66 := ⟨rfl, by decide⟩
theorem is_67 : cs_is 20 67 := ⟨rfl, by decide⟩
theorem is_68 : cs_is 21 68 := ⟨rfl, by decide⟩
theorem is_69 : cs_is 21 69 := ⟨rfl, by decide⟩
theorem is_70 : cs_is 20 70 := ⟨rfl, by decide⟩
theorem is_71 : cs_is 21 71 := ⟨rfl, by decide⟩
theorem is_72 : cs_is 20 72 := ⟨rfl, by decide⟩
theorem is_73 : cs_is 20 73 := ⟨rfl, by decide⟩
theorem is_74 : cs_is 20 74 := ⟨rfl, by decide⟩
theorem is_75 : cs_is 20 75 := ⟨rfl, by decide⟩
theorem is_76 : cs_is 20 76 := ⟨rfl, by decide⟩
theorem is_77 : cs_is 20 77 := ⟨rfl, by decide⟩
theorem is_78 : cs_is 20 78 := ⟨rfl, by decide⟩
theorem is_79 : cs_is 20 79 := ⟨rfl, by decide⟩
theorem is_80 : cs_is 20 80 := ⟨rfl, by decide⟩
theorem is_81 : cs_is 20 81 := ⟨rfl, by decide⟩
theorem is_82 : cs_is 20 82 := ⟨rfl, by decide⟩
theorem is_83 : cs_is 20 83 := ⟨rfl, by decide⟩
theorem is_84 : cs_is 20 84 := ⟨rfl, by decide⟩
theorem is_85 : cs_is 20 85 := ⟨rfl, by decide⟩
theorem is_86 : cs_is 20 86 := ⟨rfl, by decide⟩
theorem is_Sc1 {J : Nat} (h : cs_is 2 J) : cs_is 20 (J + 1) := (by decide : ∀ j, j < cs_n → cs_kd j = 2 → cs_kd (j + 1) = 20 ∧ j + 1 < cs_n) J h.2 h.1
theorem is_Sc2 {J : Nat} (h : cs_is 2 J) : cs_is 20 (J + 2) := (by decide : ∀ j, j < cs_n → cs_kd j = 2 → cs_kd (j + 2) = 20 ∧ j + 2 < cs_n) J h.2 h.1
theorem is_Sc3 {J : Nat} (h : cs_is 2 J) : cs_is 20 (J + 3) := (by decide : ∀ j, j < cs_n → cs_kd j = 2 → cs_kd (j + 3) = 20 ∧ j + 3 < cs_n) J h.2 h.1
theorem is_Ma1 {J : Nat} (h : cs_is 3 J) : cs_is 20 (J + 1) := (by decide : ∀ j, j < cs_n → cs_kd j = 3 → cs_kd (j + 1) = 20 ∧ j + 1 < cs_n) J h.2 h.1
theorem is_Ma2 {J : Nat} (h : cs_is 3 J) : cs_is 20 (J + 2) := (by decide : ∀ j, j < cs_n → cs_kd j = 3 → cs_kd (j + 2) = 20 ∧ j + 2 < cs_n) J h.2 h.1
theorem is_scr {i : Int32} (h : vp_in i 11) : cs_is 2 (8 + 4 * i.toNatClampNeg) := (by decide : ∀ k, k < 11 → cs_kd (8 + 4 * k) = 2 ∧ 8 + 4 * k < cs_n) _ (Nat.not_le.mp fun q => h (Or.inr q))
