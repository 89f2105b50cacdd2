/-! THE CLAIM OUT OF ONE WALK OF THE LAW'S BODY. Your part is whole_start (and what it stands on); all else here is the same for every law, but numbers. -/
def R_law : String := "ClassStarterLaw"
def lw_P (b : Addr) (xs : List Int32) (args : Array Value) (s : State) : Prop := args = #[.ref b] ∧ s.IntsAt b xs ∧ xs.length ≤ 2560 ∧ (Jvm.Cond.and given_1 narrow_1).before args s = true
def lw_Q (_ : Array Value) (s : State) (o : Outcome) (t : State) : Prop := o = .returned (some (.int 1)) ∧ Framed s o t [] 600000 7302250
def lw_Z (below : List Frame) (a : Array Value) (s : State) : State → Prop := fun t => ∃ o, t.status = .running ∧ Ended t below o ∧ lw_Q a s o t
/-- the law's own end, with 1 on the stack, nothing written that was there before, its room as the claim has it -/
theorem lw_ret {p : Program} {l : Launch} {e : Env} {s : State} {m : MethodId} {below : List Frame} {meth : Method} {c : Code} {b : Nat} (hx : p.tables.exec = Jvm.exec) (hb : c.code = code) (hr : meth.sig.returnType = ret) (hlocks : meth.locks = false) {pc : Nat} {H : Heap} {ls : Array Slot} (hdg : decode code pc = .ok (.ireturn, 1)) : W p l e room_1 s m #[Value.ref b] below meth c H [] 600000 7302250 (lw_Z below #[Value.ref b] s) (F0 m pc ls [.int 1]) := by
  intro T hT X
  obtain ⟨fs, hret, hrun, hended, hW, hframe⟩ := X.leave (v := some (.int 1)) (hlocks := hlocks) (fun h => by rw [hr] at h; cases h)
  have hmeth' : T.vm.method? m = some meth := X.method'
  refine ⟨T.setFrames fs, ?_, .returned (some (.int 1)), hrun, hended, rfl, ⟨_, rfl⟩, hW, hframe⟩
  jvm_step X.here [X.here.top, hx, hb, hdg, hmeth', hr, ret, narrow_b1]
  (try refine ⟨rfl, ?_⟩); (try refine ⟨rfl, ?_⟩)
  first | (intro acts; rw [hret _ acts rfl rfl rfl]) | rw [hret _ _ rfl rfl rfl]
  exact Steps.refl _
/-- what holds at the law's entry: the machine, the code, the tables' words (any of lw_tbl by 'hts w (by decide +kernel)'), the script of L ints xs at the cell b, what the Statement gives of the start (any of its parts by flat_of_before) -/
def lw_At (p : Program) (s : State) (m : MethodId) (meth : Method) (c : Code) (b L : Nat) (xs : Nat → Int32) : Prop :=
  p.tables.exec = Jvm.exec ∧ c.code = code ∧ meth.sig.returnType = ret ∧ c.maxLocals = 4 ∧ s.vm.findClass R_law = some m.cls ∧ (∀ w ∈ lw_tbl, w.before #[Value.ref b] s = true) ∧ va_X b L xs s s.heap ∧ b < s.heap.size ∧ meth.locks = false ∧ (Jvm.Cond.and given_1 narrow_1).before #[Value.ref b] s = true
def cs_RelOK (Rel : Nat → cs_Mem → Prop) : Prop := cs_R_declare Rel ∧ cs_R_inherit Rel ∧ cs_R_act Rel ∧ cs_R_plan Rel ∧ cs_R_step Rel ∧ cs_R_reset Rel ∧ cs_R_state Rel ∧ cs_R_statics Rel ∧ cs_R_result Rel ∧ cs_R_inside Rel ∧ cs_R_waitsFor Rel ∧ cs_R_logged Rel ∧ cs_R_explore Rel ∧ cs_R_outcome Rel ∧ cs_R_count Rel
theorem cs_lawC {L k : Nat} (hL : L ≤ 2560) (hk : 5 * k ≤ L) (h : ¬ (Int32.ofNat L - 5 : Int32) < nI (5 * k)) : 5 * k + 5 ≤ L := by
  rcases Nat.lt_or_ge L (5 * k + 5) with h1 | h1
  · exfalso
    apply h
    rw [Int32.lt_iff_toInt_lt]
    have e1 : (Int32.ofNat L - 5 : Int32).toInt = (L : Int) - 5 := pk_sub_toInt (a := L) (b := 5) (by omega) (by decide)
    rw [e1, nI_toInt (by omega)]
    omega
  · exact h1
theorem cs_16 {j : Nat} (h : j < 16) : j = 0 ∨ j = 1 ∨ j = 2 ∨ j = 3 ∨ j = 4 ∨ j = 5 ∨ j = 6 ∨ j = 7 ∨ j = 8 ∨ j = 9 ∨ j = 10 ∨ j = 11 ∨ j = 12 ∨ j = 13 ∨ j = 14 ∨ j = 15 := by omega
set_option maxHeartbeats 8000000 in
set_option maxRecDepth 100000 in
theorem law_loop {p : Program} {l : Launch} {e : Env} {s : State} {m : MethodId} {below : List Frame} {meth : Method} {c : Code} {D : va_G} {cA : Nat → ClassId} {b L : Nat} {xs : Nat → Int32} {Rel : Nat → cs_Mem → Prop} (hR : cs_RelOK Rel) (hN9 : ∀ k M, k < 512 → Rel k M → Rel (k + 1) M) (hC : cs_Ctx p s m #[Value.ref b] c code 4 "ClassStarterLaw" D cA (fun q => s.heap.size ≤ q)) (hX : va_X b L xs s s.heap) (hbl : b < s.heap.size) (hL : L ≤ 2560) (hr : meth.sig.returnType = ret) (hlk : meth.locks = false) :
    ∀ (n k : Nat), n + k = 513 → 5 * k ≤ L → ∀ (M : cs_Mem) (ad : Nat → Nat) (kc ks : Nat) (H : Heap) (locs : List Loc) (ls : Array Slot), Rel k M → cs_Wd D cA ad M (fun q => s.heap.size ≤ q) s H locs → lv_has ls 4 [(0, .ref b), (1, .ref (ad 0)), (2, .ref (ad 62)), (3, .int (nI (5 * k)))] → (kc ≤ 100 + 1024 * k ∧ ks ≤ 20000 + 8192 * k) →
      W p l e room_1 s m #[Value.ref b] below meth c H locs kc ks (lw_Z below #[Value.ref b] s) (F0 m 18 ls []) := by
  have hx := hC.1
  have hb := hC.2.1
  have hbA : ¬ (fun q : Nat => s.heap.size ≤ q) b := Nat.not_le.mpr hbl
  obtain ⟨R0, R1, R2, R3, R4, R5, R6, R7, R8, R9, R10, R11, R12, R13, R14⟩ := hR
  intro n
  induction n with
  | zero =>
    intro k h1 h2
    exact absurd h2 (by omega)
  | succ n ih =>
    intro k h1 h2 M ad kc ks H locs ls hrel hw hl hkc
    refine lv_iload_n hx hb d_Law_law_18 rfl (lv_at hl 3 rfl) ?_
    refine lv_aload_n hx hb d_Law_law_19 rfl (lv_at hl 0 rfl) ?_
    refine va_slen hx hb hX hbl hbA hw.2.2 d_Law_law_20 ?_
    refine lv_iconst (v := 5) hx hb d_Law_law_21 (by decide) ?_
    refine lv_isub hx hb d_Law_law_22 ?_
    refine lv_icmp_gt (tgt := 600) hx hb d_Law_law_23 (by decide) (fun _ => ?_) (fun c1 => ?_)
    · refine lv_iconst (v := 1) hx hb d_Law_law_600 (by decide) ?_
      refine va_forget (fun q hq => hw.2.2.2.2 q hq) ?_
      refine W.widen (k := 600000) (n := 7302250) (by omega) (by omega) ?_
      exact lw_ret hx hb hr hlk d_Law_law_601
    · have hi5 := cs_lawC hL h2 c1
      have hk : k < 512 := by omega
      refine lv_aload_n hx hb d_Law_law_26 rfl (lv_at hl 0 rfl) ?_
      refine lv_iload_n hx hb d_Law_law_27 rfl (lv_at hl 3 rfl) ?_
      refine va_sld hx hb hX hbl hbA hw.2.2 (i := nI (5 * k)) (vp_in_nI (by omega) (by omega)) d_Law_law_28 ?_
      refine lv_bipush (v := 15) hx hb d_Law_law_29 (by decide) ?_
      refine lv_iand hx hb d_Law_law_31 ?_
      have kk : ∀ (M : cs_Mem) (ad : Nat → Nat) (kc ks : Nat) (H : Heap) (locs : List Loc) (ls : Array Slot), Rel (k + 1) M → cs_Wd D cA ad M (fun q => s.heap.size ≤ q) s H locs → lv_has ls 4 [(0, .ref b), (1, .ref (ad 0)), (2, .ref (ad 62)), (3, .int (nI (5 * k)))] → (kc ≤ 100 + 1024 * (k + 1) ∧ ks ≤ 20000 + 8192 * (k + 1)) → W p l e room_1 s m #[Value.ref b] below meth c H locs kc ks (lw_Z below #[Value.ref b] s) (F0 m 594 ls []) := by
        intro M ad kc ks H locs ls hrel hw hl hkc
        refine lv_iinc (v := nI (5 * (k + 1))) (lv' := [(3, .int (nI (5 * (k + 1)))), (0, .ref b), (1, .ref (ad 0)), (2, .ref (ad 62))]) hx hb d_Law_law_594 hl (k := 3) rfl (nI_add (5 * k) 5) (by decide) rfl (fun ls hl => ?_)
        refine lv_goto (tgt := 18) hx hb d_Law_law_597 (by decide) ?_
        exact ih (k + 1) (by omega) (by omega) M ad kc ks H locs ls hrel hw (lv_sub hl [1, 2, 3, 0] rfl) hkc
      obtain ⟨j, hj, ej⟩ := pk_andE (xs (nI (5 * k)).toNatClampNeg) (m := 15) 4 rfl
      rw [ej]
      rcases cs_16 hj with rfl | rfl | rfl | rfl | rfl | rfl | rfl | rfl | rfl | rfl | rfl | rfl | rfl | rfl | rfl | rfl
      · refine lv_tableIn (off := 76) (tgt := 108) hx hb d_Law_law_32 (by decide) (by decide) rfl (by decide) ?_
        exact law_declare R0 hC hX hbl hbA hi5 hL hk M ad kc ks H locs ls hrel hw hl hkc kk
      · refine lv_tableIn (off := 161) (tgt := 193) hx hb d_Law_law_32 (by decide) (by decide) rfl (by decide) ?_
        exact law_inherit R1 hC hX hbl hbA hi5 hL hk M ad kc ks H locs ls hrel hw hl hkc kk
      · refine lv_tableIn (off := 220) (tgt := 252) hx hb d_Law_law_32 (by decide) (by decide) rfl (by decide) ?_
        exact law_act R2 hC hX hbl hbA hi5 hL hk M ad kc ks H locs ls hrel hw hl hkc kk
      · refine lv_tableIn (off := 273) (tgt := 305) hx hb d_Law_law_32 (by decide) (by decide) rfl (by decide) ?_
        exact law_plan R3 hC hX hbl hbA hi5 hL hk M ad kc ks H locs ls hrel hw hl hkc kk
      · refine lv_tableIn (off := 316) (tgt := 348) hx hb d_Law_law_32 (by decide) (by decide) rfl (by decide) ?_
        exact law_step R4 hC hX hbl hbA hi5 hL hk M ad kc ks H locs ls hrel hw hl hkc kk
      · refine lv_tableIn (off := 339) (tgt := 371) hx hb d_Law_law_32 (by decide) (by decide) rfl (by decide) ?_
        exact law_reset R5 hC hX hbl hbA hi5 hL hk M ad kc ks H locs ls hrel hw hl hkc kk
      · refine lv_tableIn (off := 352) (tgt := 384) hx hb d_Law_law_32 (by decide) (by decide) rfl (by decide) ?_
        exact law_state R6 hC hX hbl hbA hi5 hL hk M ad kc ks H locs ls hrel hw hl hkc kk
      · refine lv_tableIn (off := 375) (tgt := 407) hx hb d_Law_law_32 (by decide) (by decide) rfl (by decide) ?_
        exact law_statics R7 hC hX hbl hbA hi5 hL hk M ad kc ks H locs ls hrel hw hl hkc kk
      · refine lv_tableIn (off := 409) (tgt := 441) hx hb d_Law_law_32 (by decide) (by decide) rfl (by decide) ?_
        exact law_result R8 hC hX hbl hbA hi5 hL hk M ad kc ks H locs ls hrel hw hl hkc kk
      · refine lv_tableIn (off := 432) (tgt := 464) hx hb d_Law_law_32 (by decide) (by decide) rfl (by decide) ?_
        exact law_inside R9 hC hX hbl hbA hi5 hL hk M ad kc ks H locs ls hrel hw hl hkc kk
      · refine lv_tableIn (off := 455) (tgt := 487) hx hb d_Law_law_32 (by decide) (by decide) rfl (by decide) ?_
        exact law_waitsFor R10 hC hX hbl hbA hi5 hL hk M ad kc ks H locs ls hrel hw hl hkc kk
      · refine lv_tableIn (off := 478) (tgt := 510) hx hb d_Law_law_32 (by decide) (by decide) rfl (by decide) ?_
        exact law_logged R11 hC hX hbl hbA hi5 hL hk M ad kc ks H locs ls hrel hw hl hkc kk
      · refine lv_tableIn (off := 502) (tgt := 534) hx hb d_Law_law_32 (by decide) (by decide) rfl (by decide) ?_
        exact law_explore R12 hC hX hbl hbA hi5 hL hk M ad kc ks H locs ls hrel hw hl hkc kk
      · refine lv_tableIn (off := 515) (tgt := 547) hx hb d_Law_law_32 (by decide) (by decide) rfl (by decide) ?_
        exact law_outcome R13 hC hX hbl hbA hi5 hL hk M ad kc ks H locs ls hrel hw hl hkc kk
      · refine lv_tableIn (off := 539) (tgt := 571) hx hb d_Law_law_32 (by decide) (by decide) rfl (by decide) ?_
        exact law_count R14 hC hX hbl hbA hi5 hL hk M ad kc ks H locs ls hrel hw hl hkc kk
      · refine lv_tableOut (tgt := 594) hx hb d_Law_law_32 (Or.inr (by decide)) (by decide) ?_
        exact kk M ad kc ks H locs ls (hN9 k M hk hrel) hw hl (cs_lawS hkc)
