/-! the constructors: a world is a list that grows; the object that is made stands at pre.length -/
def cs_Pn (D : va_G) (cA : Nat → ClassId) (ws : va_W) (av : List Value) (sz : Nat) : Array Value → State → Prop :=
  va_Pc av (fun U => U.heap.size = sz ∧ va_P D cs_cl ws U.heap ∧ va_K D cs_cl (cs_tys cA) U ∧ va_D (fun _ => True) ws ∧ va_Nw cs_nest U ∧ va_AO "ClassStarter$Script" U)
def cs_Qn (D : va_G) (mk : (Nat → Nat) → va_W) (A : Nat → Prop) : Array Value → State → Outcome → State → Prop :=
  va_Qv (fun (_ : Nat → Nat) => True) (fun q t => va_P D cs_cl (mk q) t.heap ∧ va_D A (mk q)) A
theorem cs_mid_at {pre suf : va_W} {x : Nat × va_E} : (pre ++ x :: suf)[pre.length]? = some x := by
  rw [List.getElem?_append_right (Nat.le_refl _), Nat.sub_self]
  rfl
theorem cs_mid_set {pre suf : va_W} {x y : Nat × va_E} : (pre ++ x :: suf).set pre.length y = pre ++ y :: suf := by
  rw [List.set_append_right _ _ (Nat.le_refl _), Nat.sub_self]
  rfl
theorem cs_mid_app {pre suf ap : va_W} {x : Nat × va_E} : (pre ++ x :: suf) ++ ap = pre ++ x :: (suf ++ ap) := by simp
theorem cs_Pn_blind {D : va_G} {cA : Nat → ClassId} {ws : va_W} {av : List Value} {sz : Nat} : FrameBlind (cs_Pn D cA ws av sz) := fun a U g mk q => by
  obtain ⟨q0, q1, qP, qK, qD, qN, qO⟩ := q
  exact ⟨q0, q1, qP, va_K.moved (u := U) (U := U.calling g mk a) (Vm.Alike.refl U.vm) qK, qD, va_Nw.same rfl rfl qN, va_AO.moved (u := U) (U := U.calling g mk a) (Vm.Alike.refl U.vm) qO⟩
theorem cs_entryN {l : Launch} {y : MethodName} {cc : ByteArray} {nL : Nat} {ret : Option FieldType} {rm : Room} {D : va_G} {cA : Nat → ClassId} {ws : va_W} {av : List Value} {Qc : (Nat → Prop) → Array Value → State → Outcome → State → Prop} {mc ms : Nat} (hy : plainName y.cls = true) (hn : (lg_sl av).length ≤ nL)
    (body : ∀ (p : Program) (e : Env) (s : State) (m : MethodId) (below : List Frame) (meth : Method) (c : Code) (A : Nat → Prop) (ls : Array Slot), cs_Ctx p s m av.toArray c cc nL y.cls D cA A → meth.sig.returnType = ret → meth.locks = false → (s.methodNamed? y = some m ∧ s.vm.method? m = some meth) → va_P D cs_cl ws s.heap → va_D A ws → va_S A s.heap s.heap [] → va_AO "ClassStarter$Script" s → lv_has ls nL (lv_args 0 av) →
      W p l e rm s m av.toArray below meth c s.heap [] 0 0 (MQ below (Qc A) av.toArray s mc ms A) (F0 m 0 ls [])) (sz : Nat) :
    Met l y (Cond.code y cc nL ret :: cs_all) rm (cs_Pn D cA ws av sz) (Qc (va_A ws sz)) mc ms (va_A ws sz) := by
  refine Met.ofW (cc := cc) (maxL := nL) (ret := ret) hy rfl ?_
  intro p e s m args below meth c s₁ B hml hv
  obtain ⟨rfl, hsz, hP, hK, hD0, hN, hO⟩ := hv
  have hts := atoms_spec (ws := Cond.code y cc nL ret :: cs_all) B.pre
  subst hsz
  have hl := lv_entry av (n := nL) hn
  rw [lg_entry_eq]
  generalize (lg_sl av ++ List.replicate (nL - (lg_sl av).length) Slot.unset).toArray = ls at hl ⊢
  exact body p e s m below meth c (va_A ws s.heap.size) ls ⟨B.exec, B.bytes, hml, findClass_of_methodNamed B.named, fun w h => hts w (List.mem_cons_of_mem _ h), hK, fun q h => Or.inr h, hN⟩ B.returns B.notSynchronized ⟨B.named, B.method⟩ hP hD0.self va_S.rf hO hl
theorem cs_cA1 {D : va_G} {cA : Nat → ClassId} {cB : ClassId} {s : State} (h : va_K D cs_cl (cs_tys cA ++ [(cB, .boolean)]) s) : cB = cA 1 := by
  have h1 := (h.2 1 (cA 1, .boolean) rfl).2
  have h2 := (h.2 3 (cB, .boolean) rfl).2
  exact Option.some.inj (h2.symm.trans h1)
theorem cs_cA2 {D : va_G} {cA : Nat → ClassId} {cB : ClassId} {s : State} (h : va_K D cs_cl (cs_tys cA ++ [(cB, .object "ClassStarter$Script")]) s) : cB = cA 2 := by
  obtain ⟨_, _, _, _, _, h1⟩ := (h.2 2 (cA 2, .object "ClassStarter$Script") rfl).2
  obtain ⟨_, _, _, _, _, h2⟩ := (h.2 3 (cB, .object "ClassStarter$Script") rfl).2
  exact Option.some.inj (h2.symm.trans h1)
section CSN
variable {p : Program} {l : Launch} {e : Env} {R : Room} {s : State} {m : MethodId} {args : Array Value} {below : List Frame} {meth : Method} {c : Code} {H : Heap} {locs : List Loc} {cells slots : Nat} {Q : State → Prop}
variable {cc : ByteArray} {nL pc index : Nat} {own : String} {ls : Array Slot} {rest st0 : List Value} {D : va_G} {cA : Nat → ClassId} {A : Nat → Prop} {ws : va_W}
theorem cs_A_inN (hA : ∀ q, s.heap.size ≤ q → A q) (hD : va_D A ws) (hS : va_S A s.heap H locs) : ∀ q, va_A ws H.size q → A q := by
  intro q h
  rcases h with ⟨k, e, h⟩ | h
  · exact hD.2 k (q, e) h
  · exact hA q (Nat.le_trans hS.1 h)
/-- invokespecial of a constructor -/
theorem cs_callN {y : MethodName} {bytes : ByteArray} {maxL n mc ms : Nat} {rm : Room} {o : Nat} {As : List Value} {mk : (Nat → Nat) → va_W} (hC : cs_Ctx p s m args c cc nL own D cA A) (hAO : va_AO "ClassStarter$Script" s) (hP : va_P D cs_cl ws H) (hD : va_D A ws) (hS : va_S A s.heap H locs)
    (hM : Met l y (Cond.code y bytes maxL none :: cs_all) rm (cs_Pn D cA ws (.ref o :: As) H.size) (cs_Qn D mk (va_A ws H.size)) mc ms (va_A ws H.size)) (hmc : rm.cells = mc) (hms : rm.slots = ms) (hlk : Cond.methodLink own index y ∈ cs_all) (hin : Cond.instanceMethod y ∈ cs_all) (hcd : Cond.code y bytes maxL none ∈ cs_all) (hini : Cond.initialized y.cls ∈ cs_all)
    (hy : y.name = "<init>" ∧ y.cls ≠ "java/lang/invoke/MethodHandle" ∧ y.cls ≠ "java/lang/invoke/VarHandle" ∧ (parseMethodDescriptor y.desc).map (fun d => d.parameters.length) = some n) (hR : rm.frames + 1 ≤ R.frames ∧ 8 + (maxL + 11) + rm.locals ≤ R.locals)
    (hls : ls.size = nL) (hn : As.length = n) (hst : st0 = As.reverse ++ .ref o :: rest) (hrest : (rest.map fun v => v.category).sum ≤ 8) (hdg : decode cc pc = .ok (.invokespecial index, 3)) (hf : cells + mc ≤ R.cells ∧ slots + ms ≤ R.slots)
    (kk : ∀ (q : Nat → Nat) (H1 : Heap) (locs1 : List Loc), va_P D cs_cl (mk q) H1 → va_D A (mk q) → va_S A s.heap H1 locs1 → W p l e R s m args below meth c H1 locs1 (cells + mc) (slots + ms) Q (F0 m (pc + 3) ls rest)) : W p l e R s m args below meth c H locs cells slots Q (F0 m pc ls st0) := by
  obtain ⟨hx, hb, hml, hown, hts, hK, hA, hN⟩ := hC
  refine va_callv (va_runI (Ts := cs_all) ⟨hx, hb, hml, hown, hts⟩ hM (cwI n hts (cs_good (c0 := Cond.tt) hcd) rfl hmc hms (hts _ hini) (hts _ hlk) (hts _ hin) hy.1 hy.2 hR) ⟨cs_Pn_blind, fun U hU hW => ⟨rfl, by rw [hU], by rw [hU]; exact hP, va_K.moved hW.alike hK, hD.weaken (fun _ _ _ _ => trivial), va_Nw.warmM hW hN, va_AO.moved hW.alike hAO⟩⟩ rfl hn hls hst (lv_room hrest) hdg hf) hS (fun q _ h => cs_A_inN hA hD hS q h) (cs_A_inN hA hD hS) (fun u t H1 locs1 ht hvm hp hB hz hk hS1 => ?_)
  obtain ⟨b1, b2⟩ := hB
  rw [ht] at b1
  exact kk u H1 locs1 b1 (b2.weaken (fun _ q _ h => cs_A_inN hA hD hS q.1 h)) hS1
/-- invokestatic -/
theorem cs_callNS {y : MethodName} {bytes : ByteArray} {maxL n mc ms : Nat} {rm : Room} {As : List Value} {mk : (Nat → Nat) → va_W} (hC : cs_Ctx p s m args c cc nL own D cA A) (hAO : va_AO "ClassStarter$Script" s) (hP : va_P D cs_cl ws H) (hD : va_D A ws) (hS : va_S A s.heap H locs)
    (hM : Met l y (Cond.code y bytes maxL none :: cs_all) rm (cs_Pn D cA ws As H.size) (cs_Qn D mk (va_A ws H.size)) mc ms (va_A ws H.size)) (hmc : rm.cells = mc) (hms : rm.slots = ms) (hlk : Cond.methodLink own index y ∈ cs_all) (hin : Cond.static y ∈ cs_all) (hcd : Cond.code y bytes maxL none ∈ cs_all) (hini : Cond.initialized y.cls ∈ cs_all)
    (hy : y.cls ≠ "java/lang/invoke/MethodHandle" ∧ y.cls ≠ "java/lang/invoke/VarHandle" ∧ (parseMethodDescriptor y.desc).map (fun d => d.parameters.length) = some n) (hR : rm.frames + 1 ≤ R.frames ∧ 8 + (maxL + 11) + rm.locals ≤ R.locals)
    (hls : ls.size = nL) (hn : As.length = n) (hst : st0 = As.reverse ++ rest) (hrest : (rest.map fun v => v.category).sum ≤ 8) (hdg : decode cc pc = .ok (.invokestatic index, 3)) (hf : cells + mc ≤ R.cells ∧ slots + ms ≤ R.slots)
    (kk : ∀ (q : Nat → Nat) (H1 : Heap) (locs1 : List Loc), va_P D cs_cl (mk q) H1 → va_D A (mk q) → va_S A s.heap H1 locs1 → W p l e R s m args below meth c H1 locs1 (cells + mc) (slots + ms) Q (F0 m (pc + 3) ls rest)) : W p l e R s m args below meth c H locs cells slots Q (F0 m pc ls st0) := by
  obtain ⟨hx, hb, hml, hown, hts, hK, hA, hN⟩ := hC
  refine va_callv (va_runS (Ts := cs_all) ⟨hx, hb, hml, hown, hts⟩ hM ⟨callB_of n hts (cs_good (c0 := Cond.tt) hcd) rfl hmc hms (hts _ hini) (hts _ hlk) hy hR, hts _ hin⟩ ⟨cs_Pn_blind, fun U hU hW => ⟨rfl, by rw [hU], by rw [hU]; exact hP, va_K.moved hW.alike hK, hD.weaken (fun _ _ _ _ => trivial), va_Nw.warmM hW hN, va_AO.moved hW.alike hAO⟩⟩ rfl hn hls hst (lv_room hrest) hdg hf) hS (fun q _ h => cs_A_inN hA hD hS q h) (cs_A_inN hA hD hS) (fun u t H1 locs1 ht hvm hp hB hz hk hS1 => ?_)
  obtain ⟨b1, b2⟩ := hB
  rw [ht] at b1
  exact kk u H1 locs1 b1 (b2.weaken (fun _ q _ h => cs_A_inN hA hD hS q.1 h)) hS1
/-- invokevirtual -/
theorem cs_callNV {y : MethodName} {bytes : ByteArray} {maxL n mc ms : Nat} {rm : Room} {o ci : Nat} {qc : vw_C} {fs : List Value} {kp : Nat} {As : List Value} {mk : (Nat → Nat) → va_W} (hC : cs_Ctx p s m args c cc nL own D cA A) (hAO : va_AO "ClassStarter$Script" s) (hP : va_P D cs_cl ws H) (hD : va_D A ws) (hS : va_S A s.heap H locs) (he : ws[kp]? = some (o, .inr (ci, fs))) (hcc : cs_cl[ci]? = some qc)
    (hM : Met l y (Cond.code y bytes maxL none :: cs_all) rm (cs_Pn D cA ws (.ref o :: As) H.size) (cs_Qn D mk (va_A ws H.size)) mc ms (va_A ws H.size)) (hmc : rm.cells = mc) (hms : rm.slots = ms) (hlk : Cond.methodLink own index y ∈ cs_all) (hin : Cond.instanceMethod y ∈ cs_all) (hcd : Cond.code y bytes maxL none ∈ cs_all) (hini : Cond.initialized y.cls ∈ cs_all) (hsel : Cond.selects y.cls y y ∈ cs_all)
    (hy : qc.1 = y.cls ∧ y.cls ≠ "java/lang/invoke/MethodHandle" ∧ y.cls ≠ "java/lang/invoke/VarHandle" ∧ (parseMethodDescriptor y.desc).map (fun d => d.parameters.length) = some n) (hR : rm.frames + 1 ≤ R.frames ∧ 8 + (maxL + 11) + rm.locals ≤ R.locals)
    (hls : ls.size = nL) (hn : As.length = n) (hst : st0 = As.reverse ++ .ref o :: rest) (hrest : (rest.map fun v => v.category).sum ≤ 8) (hdg : decode cc pc = .ok (.invokevirtual index, 3)) (hf : cells + mc ≤ R.cells ∧ slots + ms ≤ R.slots)
    (kk : ∀ (q : Nat → Nat) (H1 : Heap) (locs1 : List Loc), va_P D cs_cl (mk q) H1 → va_D A (mk q) → va_S A s.heap H1 locs1 → W p l e R s m args below meth c H1 locs1 (cells + mc) (slots + ms) Q (F0 m (pc + 3) ls rest)) : W p l e R s m args below meth c H locs cells slots Q (F0 m pc ls st0) := by
  obtain ⟨hx, hb, hml, hown, hts, hK, hA, hN⟩ := hC
  refine va_callv (va_runV (Ts := cs_all) ⟨hx, hb, hml, hown, hts⟩ hM ⟨callB_of n hts (cs_good (c0 := Cond.tt) hcd) rfl hmc hms (hts _ hini) (hts _ hlk) hy.2 hR, hts _ hin, hts _ hsel⟩ ⟨cs_Pn_blind, hy.1 ▸ va_recv hK hP hcc he, fun U hU hW => ⟨rfl, by rw [hU], by rw [hU]; exact hP, va_K.moved hW.alike hK, hD.weaken (fun _ _ _ _ => trivial), va_Nw.warmM hW hN, va_AO.moved hW.alike hAO⟩⟩ rfl hn hls hst (lv_room hrest) hdg hf) hS (fun q _ h => cs_A_inN hA hD hS q h) (cs_A_inN hA hD hS) (fun u t H1 locs1 ht hvm hp hB hz hk hS1 => ?_)
  obtain ⟨b1, b2⟩ := hB
  rw [ht] at b1
  exact kk u H1 locs1 b1 (b2.weaken (fun _ q _ h => cs_A_inN hA hD hS q.1 h)) hS1
end CSN
