theorem d_Ex_forget_0 : decode prog_2_method_6_code 0 = .ok (.aload_n 0, 1) := by decide +kernel
theorem d_Ex_forget_1 : decode prog_2_method_6_code 1 = .ok (.iconst 0, 1) := by decide +kernel
theorem d_Ex_forget_2 : decode prog_2_method_6_code 2 = .ok (.putfield 27, 3) := by decide +kernel
theorem d_Ex_forget_5 : decode prog_2_method_6_code 5 = .ok (.aload_n 0, 1) := by decide +kernel
theorem d_Ex_forget_6 : decode prog_2_method_6_code 6 = .ok (.iconst 0, 1) := by decide +kernel
theorem d_Ex_forget_7 : decode prog_2_method_6_code 7 = .ok (.putfield 37, 3) := by decide +kernel
theorem d_Ex_forget_10 : decode prog_2_method_6_code 10 = .ok (.return_, 1) := by decide +kernel
def f_Ex_forget (M : cs_Mem) (j : Nat) : cs_Mem :=
  cs_bd (cs_up M j (upd (M j) 4 0)) fun (N1 : cs_Mem) =>
  cs_bd (cs_up N1 j (upd (N1 j) 8 0)) fun (N2 : cs_Mem) =>
  N2
set_option maxHeartbeats 4000000 in
set_option maxRecDepth 100000 in
theorem c_Ex_forget (l : Launch) (D : va_G) (cA : Nat → ClassId) (ad : Nat → Nat) (M : cs_Mem) (j : Nat) (hj : cs_is 4 j) : cs_Cv l ⟨"ClassStarter$Explorer", "forget", "()V"⟩ prog_2_method_6_code 1 none ({ frames := 0, cells := 0, slots := 0, locals := 0 }) D cA ad M [.ref (ad j)] (f_Ex_forget M j) := by
  refine cs_entry (by decide) (Nat.le_of_ble_eq_true rfl) (fun p e s m below meth c A ls hC hr hlk _ hw hl => ?_)
  have hx := hC.1
  have hb := hC.2.1
  have hl : lv_has ls 1 [(0, .ref (ad j))] := hl
  generalize hF : f_Ex_forget M j = F
  have hf := hF.symm
  unfold f_Ex_forget at hf
  refine lv_aload_n hx hb d_Ex_forget_0 rfl (lv_at hl 0 rfl) ?_
  refine lv_iconst (v := 0) hx hb d_Ex_forget_1 (by decide) ?_
  refine pf_Ex_foundCount hC hw hj wd_150 d_Ex_forget_2 (fun N1 H locs eN1 hw => ?_)
  have hf := cs_bdE eN1 hf
  refine lv_aload_n hx hb d_Ex_forget_5 rfl (lv_at hl 0 rfl) ?_
  refine lv_iconst (v := 0) hx hb d_Ex_forget_6 (by decide) ?_
  refine pf_Ex_isKnown hC hw hj wd_154 (Or.inl rfl) d_Ex_forget_7 (fun N2 H locs eN2 hw => ?_)
  have hf := cs_bdE eN2 hf
  exact cs_vret hC hw hr hlk hf d_Ex_forget_10
theorem d_Ex_isKnown_0 : decode prog_2_method_7_code 0 = .ok (.aload_n 0, 1) := by decide +kernel
theorem d_Ex_isKnown_1 : decode prog_2_method_7_code 1 = .ok (.getfield 37, 3) := by decide +kernel
theorem d_Ex_isKnown_4 : decode prog_2_method_7_code 4 = .ok (.ireturn, 1) := by decide +kernel
def f_Ex_isKnown (M : cs_Mem) (j : Nat) : Int32 :=
  M j 8
def pre_Ex_isKnown (M : cs_Mem) (j : Nat) : Prop :=
  ((M j 8) = 0 ∨ (M j 8) = 1) ∧
  True
set_option maxHeartbeats 4000000 in
set_option maxRecDepth 100000 in
theorem c_Ex_isKnown (l : Launch) (D : va_G) (cA : Nat → ClassId) (ad : Nat → Nat) (M : cs_Mem) (j : Nat) (hj : cs_is 4 j) (hp : pre_Ex_isKnown M j) : cs_Ci l ⟨"ClassStarter$Explorer", "isKnown", "()Z"⟩ prog_2_method_7_code 1 (some .boolean) ({ frames := 0, cells := 0, slots := 0, locals := 0 }) D cA ad M [.ref (ad j)] ((f_Ex_isKnown M j, M)) := by
  refine cs_entry (by decide) (Nat.le_of_ble_eq_true rfl) (fun p e s m below meth c A ls hC hr hlk _ hw hl => ?_)
  have hx := hC.1
  have hb := hC.2.1
  have hl : lv_has ls 1 [(0, .ref (ad j))] := hl
  generalize hF : f_Ex_isKnown M j = F
  have hf := hF.symm
  unfold f_Ex_isKnown at hf
  unfold pre_Ex_isKnown at hp
  refine lv_aload_n hx hb d_Ex_isKnown_0 rfl (lv_at hl 0 rfl) ?_
  refine gf_Ex_isKnown hC hw hj wd_154 d_Ex_isKnown_1 ?_
  have o1 := hp.1
  have hp := hp.2
  exact cs_zret hC hw hr hlk o1 (congrArg (fun z => (z, M)) hf) d_Ex_isKnown_4
theorem d_Ex_dropAll_0 : decode prog_2_method_12_code 0 = .ok (.aload_n 0, 1) := by decide +kernel
theorem d_Ex_dropAll_1 : decode prog_2_method_12_code 1 = .ok (.iconst 0, 1) := by decide +kernel
theorem d_Ex_dropAll_2 : decode prog_2_method_12_code 2 = .ok (.putfield 27, 3) := by decide +kernel
theorem d_Ex_dropAll_5 : decode prog_2_method_12_code 5 = .ok (.aload_n 0, 1) := by decide +kernel
theorem d_Ex_dropAll_6 : decode prog_2_method_12_code 6 = .ok (.iconst 0, 1) := by decide +kernel
theorem d_Ex_dropAll_7 : decode prog_2_method_12_code 7 = .ok (.putfield 31, 3) := by decide +kernel
theorem d_Ex_dropAll_10 : decode prog_2_method_12_code 10 = .ok (.aload_n 0, 1) := by decide +kernel
theorem d_Ex_dropAll_11 : decode prog_2_method_12_code 11 = .ok (.iconst 0, 1) := by decide +kernel
theorem d_Ex_dropAll_12 : decode prog_2_method_12_code 12 = .ok (.putfield 34, 3) := by decide +kernel
theorem d_Ex_dropAll_15 : decode prog_2_method_12_code 15 = .ok (.return_, 1) := by decide +kernel
def f_Ex_dropAll (M : cs_Mem) (j : Nat) : cs_Mem :=
  cs_bd (cs_up M j (upd (M j) 4 0)) fun (N1 : cs_Mem) =>
  cs_bd (cs_up N1 j (upd (N1 j) 5 0)) fun (N2 : cs_Mem) =>
  cs_bd (cs_up N2 j (upd (N2 j) 6 0)) fun (N3 : cs_Mem) =>
  N3
set_option maxHeartbeats 4000000 in
set_option maxRecDepth 100000 in
theorem c_Ex_dropAll (l : Launch) (D : va_G) (cA : Nat → ClassId) (ad : Nat → Nat) (M : cs_Mem) (j : Nat) (hj : cs_is 4 j) : cs_Cv l ⟨"ClassStarter$Explorer", "dropAll", "()V"⟩ prog_2_method_12_code 1 none ({ frames := 0, cells := 0, slots := 0, locals := 0 }) D cA ad M [.ref (ad j)] (f_Ex_dropAll M j) := by
  refine cs_entry (by decide) (Nat.le_of_ble_eq_true rfl) (fun p e s m below meth c A ls hC hr hlk _ hw hl => ?_)
  have hx := hC.1
  have hb := hC.2.1
  have hl : lv_has ls 1 [(0, .ref (ad j))] := hl
  generalize hF : f_Ex_dropAll M j = F
  have hf := hF.symm
  unfold f_Ex_dropAll at hf
  refine lv_aload_n hx hb d_Ex_dropAll_0 rfl (lv_at hl 0 rfl) ?_
  refine lv_iconst (v := 0) hx hb d_Ex_dropAll_1 (by decide) ?_
  refine pf_Ex_foundCount hC hw hj wd_150 d_Ex_dropAll_2 (fun N1 H locs eN1 hw => ?_)
  have hf := cs_bdE eN1 hf
  refine lv_aload_n hx hb d_Ex_dropAll_5 rfl (lv_at hl 0 rfl) ?_
  refine lv_iconst (v := 0) hx hb d_Ex_dropAll_6 (by decide) ?_
  refine pf_Ex_orders hC hw hj wd_151 d_Ex_dropAll_7 (fun N2 H locs eN2 hw => ?_)
  have hf := cs_bdE eN2 hf
  refine lv_aload_n hx hb d_Ex_dropAll_10 rfl (lv_at hl 0 rfl) ?_
  refine lv_iconst (v := 0) hx hb d_Ex_dropAll_11 (by decide) ?_
  refine pf_Ex_stuckOrders hC hw hj wd_152 d_Ex_dropAll_12 (fun N3 H locs eN3 hw => ?_)
  have hf := cs_bdE eN3 hf
  exact cs_vret hC hw hr hlk hf d_Ex_dropAll_15
theorem d_Ex_begin_0 : decode prog_2_method_10_code 0 = .ok (.aload_n 0, 1) := by decide +kernel
theorem d_Ex_begin_1 : decode prog_2_method_10_code 1 = .ok (.invokevirtual 71, 3) := by decide +kernel
theorem d_Ex_begin_4 : decode prog_2_method_10_code 4 = .ok (.aload_n 0, 1) := by decide +kernel
theorem d_Ex_begin_5 : decode prog_2_method_10_code 5 = .ok (.getfield 23, 3) := by decide +kernel
theorem d_Ex_begin_8 : decode prog_2_method_10_code 8 = .ok (.invokevirtual 74, 3) := by decide +kernel
theorem d_Ex_begin_11 : decode prog_2_method_10_code 11 = .ok (.aload_n 0, 1) := by decide +kernel
theorem d_Ex_begin_12 : decode prog_2_method_10_code 12 = .ok (.iconst 0, 1) := by decide +kernel
theorem d_Ex_begin_13 : decode prog_2_method_10_code 13 = .ok (.putfield 48, 3) := by decide +kernel
theorem d_Ex_begin_16 : decode prog_2_method_10_code 16 = .ok (.aload_n 0, 1) := by decide +kernel
theorem d_Ex_begin_17 : decode prog_2_method_10_code 17 = .ok (.getfield 17, 3) := by decide +kernel
theorem d_Ex_begin_20 : decode prog_2_method_10_code 20 = .ok (.iconst 0, 1) := by decide +kernel
theorem d_Ex_begin_21 : decode prog_2_method_10_code 21 = .ok (.iconst 0, 1) := by decide +kernel
theorem d_Ex_begin_22 : decode prog_2_method_10_code 22 = .ok (.iastore, 1) := by decide +kernel
theorem d_Ex_begin_23 : decode prog_2_method_10_code 23 = .ok (.return_, 1) := by decide +kernel
def f_Ex_begin (M : cs_Mem) (j : Nat) : cs_Mem :=
  cs_bd (f_Ex_dropAll M j) fun (u1 : cs_Mem) =>
  cs_bd (f_Ma_restart u1 56) fun (u3 : cs_Mem) =>
  cs_bd (cs_up u3 j (upd (u3 j) 7 0)) fun (N4 : cs_Mem) =>
  cs_bd (cs_up N4 60 (upd (N4 60) 0 0)) fun (N6 : cs_Mem) =>
  N6
def pre_Ex_begin (M : cs_Mem) (j : Nat) : Prop :=
  cs_bd (f_Ex_dropAll M j) fun (u1 : cs_Mem) =>
  (pre_Ma_restart u1 56) ∧
  cs_bd (f_Ma_restart u1 56) fun (u3 : cs_Mem) =>
  cs_bd (cs_up u3 j (upd (u3 j) 7 0)) fun (N4 : cs_Mem) =>
  (vp_in 0 (cs_ln N4 60)) ∧
  True
set_option maxHeartbeats 4000000 in
set_option maxRecDepth 100000 in
theorem c_Ex_begin (l : Launch) (D : va_G) (cA : Nat → ClassId) (ad : Nat → Nat) (M : cs_Mem) (j : Nat) (hj : cs_is 4 j) (hp : pre_Ex_begin M j) : cs_Cv l ⟨"ClassStarter$Explorer", "begin", "()V"⟩ prog_2_method_10_code 1 none ({ frames := 2, cells := 0, slots := 0, locals := 44 }) D cA ad M [.ref (ad j)] (f_Ex_begin M j) := by
  refine cs_entry (by decide) (Nat.le_of_ble_eq_true rfl) (fun p e s m below meth c A ls hC hr hlk _ hw hl => ?_)
  have hx := hC.1
  have hb := hC.2.1
  have hl : lv_has ls 1 [(0, .ref (ad j))] := hl
  generalize hF : f_Ex_begin M j = F
  have hf := hF.symm
  unfold f_Ex_begin at hf
  unfold pre_Ex_begin at hp
  refine lv_aload_n hx hb d_Ex_begin_0 rfl (lv_at hl 0 rfl) ?_
  refine cs_ret_v hC hw (cs_runV (As := []) (rest := []) hC hw hj.2 (ci := 4) rfl rfl (cs_sg_is hj) (c_Ex_dropAll l D cA ad M j hj _) rfl rfl cw_Ex_71 ⟨Nat.le_of_ble_eq_true rfl, Nat.le_of_ble_eq_true rfl⟩ hl.1 rfl rfl (Nat.le_of_ble_eq_true rfl) d_Ex_begin_1 ⟨Nat.zero_le _, Nat.zero_le _⟩) (fun u1 H locs eu1 hw => ?_)
  have hp := cs_bdP eu1 hp
  have hf := cs_bdE eu1 hf
  refine lv_aload_n hx hb d_Ex_begin_4 rfl (lv_at hl 0 rfl) ?_
  refine gf_Ex_machine hC hw hj wd_146 d_Ex_begin_5 ?_
  have o2 := hp.1
  have hp := hp.2
  refine cs_ret_v hC hw (cs_runV (As := []) (rest := []) hC hw is_56.2 (ci := 3) rfl rfl (cs_sg_is is_56) (c_Ma_restart l D cA ad u1 56 is_56 o2 _) rfl rfl cw_Ex_74 ⟨Nat.le_of_ble_eq_true rfl, Nat.le_of_ble_eq_true rfl⟩ hl.1 rfl rfl (Nat.le_of_ble_eq_true rfl) d_Ex_begin_8 ⟨Nat.zero_le _, Nat.zero_le _⟩) (fun u3 H locs eu3 hw => ?_)
  have hp := cs_bdP eu3 hp
  have hf := cs_bdE eu3 hf
  refine lv_aload_n hx hb d_Ex_begin_11 rfl (lv_at hl 0 rfl) ?_
  refine lv_iconst (v := 0) hx hb d_Ex_begin_12 (by decide) ?_
  refine pf_Ex_depth hC hw hj wd_153 d_Ex_begin_13 (fun N4 H locs eN4 hw => ?_)
  have hp := cs_bdP eN4 hp
  have hf := cs_bdE eN4 hf
  refine lv_aload_n hx hb d_Ex_begin_16 rfl (lv_at hl 0 rfl) ?_
  refine gf_Ex_untried hC hw hj wd_148 d_Ex_begin_17 ?_
  refine lv_iconst (v := 0) hx hb d_Ex_begin_20 (by decide) ?_
  refine lv_iconst (v := 0) hx hb d_Ex_begin_21 (by decide) ?_
  have o5 := hp.1
  have hp := hp.2
  refine cs_iast hC hw is_60 o5 d_Ex_begin_22 (fun N6 H locs eN6 hw => ?_)
  have hf := cs_bdE eN6 hf
  exact cs_vret hC hw hr hlk hf d_Ex_begin_23
theorem d_Ex_goDown_0 : decode prog_2_method_13_code 0 = .ok (.aload_n 0, 1) := by decide +kernel
theorem d_Ex_goDown_1 : decode prog_2_method_13_code 1 = .ok (.getfield 17, 3) := by decide +kernel
theorem d_Ex_goDown_4 : decode prog_2_method_13_code 4 = .ok (.aload_n 0, 1) := by decide +kernel
theorem d_Ex_goDown_5 : decode prog_2_method_13_code 5 = .ok (.getfield 48, 3) := by decide +kernel
theorem d_Ex_goDown_8 : decode prog_2_method_13_code 8 = .ok (.iaload, 1) := by decide +kernel
theorem d_Ex_goDown_9 : decode prog_2_method_13_code 9 = .ok (.ifCond .ne 21, 3) := by decide +kernel
theorem d_Ex_goDown_12 : decode prog_2_method_13_code 12 = .ok (.aload_n 0, 1) := by decide +kernel
theorem d_Ex_goDown_13 : decode prog_2_method_13_code 13 = .ok (.getfield 23, 3) := by decide +kernel
theorem d_Ex_goDown_16 : decode prog_2_method_13_code 16 = .ok (.aload_n 0, 1) := by decide +kernel
theorem d_Ex_goDown_17 : decode prog_2_method_13_code 17 = .ok (.getfield 11, 3) := by decide +kernel
theorem d_Ex_goDown_20 : decode prog_2_method_13_code 20 = .ok (.aload_n 0, 1) := by decide +kernel
theorem d_Ex_goDown_21 : decode prog_2_method_13_code 21 = .ok (.getfield 48, 3) := by decide +kernel
theorem d_Ex_goDown_24 : decode prog_2_method_13_code 24 = .ok (.bipush 43, 2) := by decide +kernel
theorem d_Ex_goDown_26 : decode prog_2_method_13_code 26 = .ok (.imul, 1) := by decide +kernel
theorem d_Ex_goDown_27 : decode prog_2_method_13_code 27 = .ok (.invokevirtual 77, 3) := by decide +kernel
theorem d_Ex_goDown_30 : decode prog_2_method_13_code 30 = .ok (.aload_n 0, 1) := by decide +kernel
theorem d_Ex_goDown_31 : decode prog_2_method_13_code 31 = .ok (.getfield 17, 3) := by decide +kernel
theorem d_Ex_goDown_34 : decode prog_2_method_13_code 34 = .ok (.aload_n 0, 1) := by decide +kernel
theorem d_Ex_goDown_35 : decode prog_2_method_13_code 35 = .ok (.getfield 48, 3) := by decide +kernel
theorem d_Ex_goDown_38 : decode prog_2_method_13_code 38 = .ok (.iload_n 1, 1) := by decide +kernel
theorem d_Ex_goDown_39 : decode prog_2_method_13_code 39 = .ok (.iconst 1, 1) := by decide +kernel
theorem d_Ex_goDown_40 : decode prog_2_method_13_code 40 = .ok (.iadd, 1) := by decide +kernel
theorem d_Ex_goDown_41 : decode prog_2_method_13_code 41 = .ok (.iastore, 1) := by decide +kernel
theorem d_Ex_goDown_42 : decode prog_2_method_13_code 42 = .ok (.aload_n 0, 1) := by decide +kernel
theorem d_Ex_goDown_43 : decode prog_2_method_13_code 43 = .ok (.dup, 1) := by decide +kernel
theorem d_Ex_goDown_44 : decode prog_2_method_13_code 44 = .ok (.getfield 48, 3) := by decide +kernel
theorem d_Ex_goDown_47 : decode prog_2_method_13_code 47 = .ok (.iconst 1, 1) := by decide +kernel
theorem d_Ex_goDown_48 : decode prog_2_method_13_code 48 = .ok (.iadd, 1) := by decide +kernel
theorem d_Ex_goDown_49 : decode prog_2_method_13_code 49 = .ok (.putfield 48, 3) := by decide +kernel
theorem d_Ex_goDown_52 : decode prog_2_method_13_code 52 = .ok (.aload_n 0, 1) := by decide +kernel
theorem d_Ex_goDown_53 : decode prog_2_method_13_code 53 = .ok (.getfield 17, 3) := by decide +kernel
theorem d_Ex_goDown_56 : decode prog_2_method_13_code 56 = .ok (.aload_n 0, 1) := by decide +kernel
theorem d_Ex_goDown_57 : decode prog_2_method_13_code 57 = .ok (.getfield 48, 3) := by decide +kernel
theorem d_Ex_goDown_60 : decode prog_2_method_13_code 60 = .ok (.iconst 0, 1) := by decide +kernel
theorem d_Ex_goDown_61 : decode prog_2_method_13_code 61 = .ok (.iastore, 1) := by decide +kernel
theorem d_Ex_goDown_62 : decode prog_2_method_13_code 62 = .ok (.return_, 1) := by decide +kernel
def f_Ex_goDown_J30 (M : cs_Mem) (j : Nat) (y1 : Int32) : cs_Mem :=
  cs_bd (cs_up M 60 (upd (M 60) (M j 7).toNatClampNeg (y1 + 1))) fun (N6 : cs_Mem) =>
  cs_bd (cs_up N6 j (upd (N6 j) 7 ((N6 j 7) + 1))) fun (N7 : cs_Mem) =>
  cs_bd (cs_up N7 60 (upd (N7 60) (N7 j 7).toNatClampNeg 0)) fun (N9 : cs_Mem) =>
  N9
def pre_Ex_goDown_J30 (M : cs_Mem) (j : Nat) (y1 : Int32) : Prop :=
  (vp_in (M j 7) (cs_ln M 60)) ∧
  cs_bd (cs_up M 60 (upd (M 60) (M j 7).toNatClampNeg (y1 + 1))) fun (N6 : cs_Mem) =>
  cs_bd (cs_up N6 j (upd (N6 j) 7 ((N6 j 7) + 1))) fun (N7 : cs_Mem) =>
  (vp_in (N7 j 7) (cs_ln N7 60)) ∧
  True
def f_Ex_goDown (M : cs_Mem) (j : Nat) (x1 : Int32) : cs_Mem :=
  if (M 60 (M j 7).toNatClampNeg) = 0 then
    cs_bd (f_Ma_keepIn M 56 59 ((M j 7) * 43)) fun (u4 : cs_Mem) =>
    f_Ex_goDown_J30 u4 j x1
  else
    f_Ex_goDown_J30 M j x1
def pre_Ex_goDown (M : cs_Mem) (j : Nat) (x1 : Int32) : Prop :=
  (vp_in (M j 7) (cs_ln M 60)) ∧
  ((M 60 (M j 7).toNatClampNeg) = 0 →
    (pre_Ma_keepIn M 56 59 ((M j 7) * 43)) ∧
    cs_bd (f_Ma_keepIn M 56 59 ((M j 7) * 43)) fun (u4 : cs_Mem) =>
    pre_Ex_goDown_J30 u4 j x1
  ) ∧ (¬ ((M 60 (M j 7).toNatClampNeg) = 0) →
    pre_Ex_goDown_J30 M j x1
  )
set_option maxHeartbeats 4000000 in
set_option maxRecDepth 100000 in
theorem w_Ex_goDown_J30 {p : Program} {l : Launch} {e : Env} {s : State} {m : MethodId} {args : Array Value} {below : List Frame} {meth : Method} {c : Code} {D : va_G} {cA : Nat → ClassId} {A : Nat → Prop} {ad : Nat → Nat} {F : cs_Mem} (hC : cs_Ctx p s m args c prog_2_method_13_code 2 "ClassStarter$Explorer" D cA A) (hr : meth.sig.returnType = none) (hlk : meth.locks = false) : ∀ (M : cs_Mem) (j : Nat) (y1 : Int32) (H : Heap) (locs : List Loc) (ls : Array Slot), cs_Wd D cA ad M A s H locs → lv_has ls 2 [(0, .ref (ad j)), (1, .int y1)] → cs_is 4 j → pre_Ex_goDown_J30 M j y1 → F = f_Ex_goDown_J30 M j y1 → W p l e ({ frames := 2, cells := 0, slots := 0, locals := 62 }) s m args below meth c H locs 0 0 (MQ below (cs_Qv D cA ad F A) args s 0 0 A) (F0 m 30 ls []) := by
  have hx := hC.1
  have hb := hC.2.1
  intro M j y1 H locs ls hw hl g0 hp hf
  unfold f_Ex_goDown_J30 at hf
  unfold pre_Ex_goDown_J30 at hp
  refine lv_aload_n hx hb d_Ex_goDown_30 rfl (lv_at hl 0 rfl) ?_
  refine gf_Ex_untried hC hw g0 wd_148 d_Ex_goDown_31 ?_
  refine lv_aload_n hx hb d_Ex_goDown_34 rfl (lv_at hl 0 rfl) ?_
  refine gf_Ex_depth hC hw g0 wd_153 d_Ex_goDown_35 ?_
  refine lv_iload_n hx hb d_Ex_goDown_38 rfl (lv_at hl 1 rfl) ?_
  refine lv_iconst (v := 1) hx hb d_Ex_goDown_39 (by decide) ?_
  refine lv_iadd hx hb d_Ex_goDown_40 ?_
  have o5 := hp.1
  have hp := hp.2
  refine cs_iast hC hw is_60 o5 d_Ex_goDown_41 (fun N6 H locs eN6 hw => ?_)
  have hp := cs_bdP eN6 hp
  have hf := cs_bdE eN6 hf
  refine lv_aload_n hx hb d_Ex_goDown_42 rfl (lv_at hl 0 rfl) ?_
  refine lv_dup hx hb d_Ex_goDown_43 rfl ?_
  refine gf_Ex_depth hC hw g0 wd_153 d_Ex_goDown_44 ?_
  refine lv_iconst (v := 1) hx hb d_Ex_goDown_47 (by decide) ?_
  refine lv_iadd hx hb d_Ex_goDown_48 ?_
  refine pf_Ex_depth hC hw g0 wd_153 d_Ex_goDown_49 (fun N7 H locs eN7 hw => ?_)
  have hp := cs_bdP eN7 hp
  have hf := cs_bdE eN7 hf
  refine lv_aload_n hx hb d_Ex_goDown_52 rfl (lv_at hl 0 rfl) ?_
  refine gf_Ex_untried hC hw g0 wd_148 d_Ex_goDown_53 ?_
  refine lv_aload_n hx hb d_Ex_goDown_56 rfl (lv_at hl 0 rfl) ?_
  refine gf_Ex_depth hC hw g0 wd_153 d_Ex_goDown_57 ?_
  refine lv_iconst (v := 0) hx hb d_Ex_goDown_60 (by decide) ?_
  have o8 := hp.1
  have hp := hp.2
  refine cs_iast hC hw is_60 o8 d_Ex_goDown_61 (fun N9 H locs eN9 hw => ?_)
  have hf := cs_bdE eN9 hf
  exact cs_vret hC hw hr hlk hf d_Ex_goDown_62
set_option maxHeartbeats 4000000 in
set_option maxRecDepth 100000 in
theorem c_Ex_goDown (l : Launch) (D : va_G) (cA : Nat → ClassId) (ad : Nat → Nat) (M : cs_Mem) (j : Nat) (hj : cs_is 4 j) (x1 : Int32) (hp : pre_Ex_goDown M j x1) : cs_Cv l ⟨"ClassStarter$Explorer", "goDown", "(I)V"⟩ prog_2_method_13_code 2 none ({ frames := 2, cells := 0, slots := 0, locals := 62 }) D cA ad M [.ref (ad j), .int x1] (f_Ex_goDown M j x1) := by
  refine cs_entry (by decide) (Nat.le_of_ble_eq_true rfl) (fun p e s m below meth c A ls hC hr hlk _ hw hl => ?_)
  have hx := hC.1
  have hb := hC.2.1
  have hl : lv_has ls 2 [(0, .ref (ad j)), (1, .int x1)] := hl
  generalize hF : f_Ex_goDown M j x1 = F
  have hf := hF.symm
  unfold f_Ex_goDown at hf
  unfold pre_Ex_goDown at hp
  refine lv_aload_n hx hb d_Ex_goDown_0 rfl (lv_at hl 0 rfl) ?_
  refine gf_Ex_untried hC hw hj wd_148 d_Ex_goDown_1 ?_
  refine lv_aload_n hx hb d_Ex_goDown_4 rfl (lv_at hl 0 rfl) ?_
  refine gf_Ex_depth hC hw hj wd_153 d_Ex_goDown_5 ?_
  have o1 := hp.1
  have hp := hp.2
  refine cs_iald hC hw is_60 o1 d_Ex_goDown_8 ?_
  refine lv_if_ne (tgt := 30) hx hb d_Ex_goDown_9 (by decide) (fun c2 => ?_) (fun c2 => ?_)
  · have hp := hp.2 c2
    have hf := hf.trans (if_neg c2)
    exact w_Ex_goDown_J30 hC hr hlk M j x1 _ _ ls hw (lv_sub hl [0, 1] rfl) hj hp hf
  · have hp := hp.1 c2
    have hf := hf.trans (if_pos c2)
    refine lv_aload_n hx hb d_Ex_goDown_12 rfl (lv_at hl 0 rfl) ?_
    refine gf_Ex_machine hC hw hj wd_146 d_Ex_goDown_13 ?_
    refine lv_aload_n hx hb d_Ex_goDown_16 rfl (lv_at hl 0 rfl) ?_
    refine gf_Ex_kept hC hw hj wd_147 d_Ex_goDown_17 ?_
    refine lv_aload_n hx hb d_Ex_goDown_20 rfl (lv_at hl 0 rfl) ?_
    refine gf_Ex_depth hC hw hj wd_153 d_Ex_goDown_21 ?_
    refine lv_bipush (v := 43) hx hb d_Ex_goDown_24 (by decide) ?_
    refine lv_imul hx hb d_Ex_goDown_26 ?_
    have o3 := hp.1
    have hp := hp.2
    refine cs_ret_v hC hw (cs_runV (As := [.ref (ad 59), .int ((M j 7) * 43)]) (rest := []) hC hw is_56.2 (ci := 3) rfl rfl (cs_sg_is is_56) (c_Ma_keepIn l D cA ad M 56 is_56 59 is_59 ((M j 7) * 43) o3 _) rfl rfl cw_Ex_77 ⟨Nat.le_of_ble_eq_true rfl, Nat.le_of_ble_eq_true rfl⟩ hl.1 rfl rfl (Nat.le_of_ble_eq_true rfl) d_Ex_goDown_27 ⟨Nat.zero_le _, Nat.zero_le _⟩) (fun u4 H locs eu4 hw => ?_)
    have hp := cs_bdP eu4 hp
    have hf := cs_bdE eu4 hf
    exact w_Ex_goDown_J30 hC hr hlk u4 j x1 _ _ ls hw (lv_sub hl [0, 1] rfl) hj hp hf
theorem d_Ex_goUp_0 : decode prog_2_method_14_code 0 = .ok (.aload_n 0, 1) := by decide +kernel
theorem d_Ex_goUp_1 : decode prog_2_method_14_code 1 = .ok (.dup, 1) := by decide +kernel
theorem d_Ex_goUp_2 : decode prog_2_method_14_code 2 = .ok (.getfield 48, 3) := by decide +kernel
theorem d_Ex_goUp_5 : decode prog_2_method_14_code 5 = .ok (.iconst 1, 1) := by decide +kernel
theorem d_Ex_goUp_6 : decode prog_2_method_14_code 6 = .ok (.isub, 1) := by decide +kernel
theorem d_Ex_goUp_7 : decode prog_2_method_14_code 7 = .ok (.putfield 48, 3) := by decide +kernel
theorem d_Ex_goUp_10 : decode prog_2_method_14_code 10 = .ok (.aload_n 0, 1) := by decide +kernel
theorem d_Ex_goUp_11 : decode prog_2_method_14_code 11 = .ok (.getfield 48, 3) := by decide +kernel
theorem d_Ex_goUp_14 : decode prog_2_method_14_code 14 = .ok (.ifCond .lt 21, 3) := by decide +kernel
theorem d_Ex_goUp_17 : decode prog_2_method_14_code 17 = .ok (.aload_n 0, 1) := by decide +kernel
theorem d_Ex_goUp_18 : decode prog_2_method_14_code 18 = .ok (.getfield 23, 3) := by decide +kernel
theorem d_Ex_goUp_21 : decode prog_2_method_14_code 21 = .ok (.aload_n 0, 1) := by decide +kernel
theorem d_Ex_goUp_22 : decode prog_2_method_14_code 22 = .ok (.getfield 11, 3) := by decide +kernel
theorem d_Ex_goUp_25 : decode prog_2_method_14_code 25 = .ok (.aload_n 0, 1) := by decide +kernel
theorem d_Ex_goUp_26 : decode prog_2_method_14_code 26 = .ok (.getfield 48, 3) := by decide +kernel
theorem d_Ex_goUp_29 : decode prog_2_method_14_code 29 = .ok (.bipush 43, 2) := by decide +kernel
theorem d_Ex_goUp_31 : decode prog_2_method_14_code 31 = .ok (.imul, 1) := by decide +kernel
theorem d_Ex_goUp_32 : decode prog_2_method_14_code 32 = .ok (.invokevirtual 81, 3) := by decide +kernel
theorem d_Ex_goUp_35 : decode prog_2_method_14_code 35 = .ok (.return_, 1) := by decide +kernel
def f_Ex_goUp (M : cs_Mem) (j : Nat) : cs_Mem :=
  cs_bd (cs_up M j (upd (M j) 7 ((M j 7) - 1))) fun (N1 : cs_Mem) =>
  if (N1 j 7) < 0 then
    N1
  else
    cs_bd (f_Ma_bringBack N1 56 59 ((N1 j 7) * 43)) fun (u4 : cs_Mem) =>
    u4
def pre_Ex_goUp (M : cs_Mem) (j : Nat) : Prop :=
  cs_bd (cs_up M j (upd (M j) 7 ((M j 7) - 1))) fun (N1 : cs_Mem) =>
  ((N1 j 7) < 0 →
    True
  ) ∧ (¬ ((N1 j 7) < 0) →
    (pre_Ma_bringBack N1 56 59 ((N1 j 7) * 43)) ∧
    True
  )
set_option maxHeartbeats 4000000 in
set_option maxRecDepth 100000 in
theorem c_Ex_goUp (l : Launch) (D : va_G) (cA : Nat → ClassId) (ad : Nat → Nat) (M : cs_Mem) (j : Nat) (hj : cs_is 4 j) (hp : pre_Ex_goUp M j) : cs_Cv l ⟨"ClassStarter$Explorer", "goUp", "()V"⟩ prog_2_method_14_code 1 none ({ frames := 2, cells := 0, slots := 0, locals := 62 }) D cA ad M [.ref (ad j)] (f_Ex_goUp M j) := by
  refine cs_entry (by decide) (Nat.le_of_ble_eq_true rfl) (fun p e s m below meth c A ls hC hr hlk _ hw hl => ?_)
  have hx := hC.1
  have hb := hC.2.1
  have hl : lv_has ls 1 [(0, .ref (ad j))] := hl
  generalize hF : f_Ex_goUp M j = F
  have hf := hF.symm
  unfold f_Ex_goUp at hf
  unfold pre_Ex_goUp at hp
  refine lv_aload_n hx hb d_Ex_goUp_0 rfl (lv_at hl 0 rfl) ?_
  refine lv_dup hx hb d_Ex_goUp_1 rfl ?_
  refine gf_Ex_depth hC hw hj wd_153 d_Ex_goUp_2 ?_
  refine lv_iconst (v := 1) hx hb d_Ex_goUp_5 (by decide) ?_
  refine lv_isub hx hb d_Ex_goUp_6 ?_
  refine pf_Ex_depth hC hw hj wd_153 d_Ex_goUp_7 (fun N1 H locs eN1 hw => ?_)
  have hp := cs_bdP eN1 hp
  have hf := cs_bdE eN1 hf
  refine lv_aload_n hx hb d_Ex_goUp_10 rfl (lv_at hl 0 rfl) ?_
  refine gf_Ex_depth hC hw hj wd_153 d_Ex_goUp_11 ?_
  refine lv_if_lt (tgt := 35) hx hb d_Ex_goUp_14 (by decide) (fun c2 => ?_) (fun c2 => ?_)
  · have hp := hp.1 c2
    have hf := hf.trans (if_pos c2)
    exact cs_vret hC hw hr hlk hf d_Ex_goUp_35
  · have hp := hp.2 c2
    have hf := hf.trans (if_neg c2)
    refine lv_aload_n hx hb d_Ex_goUp_17 rfl (lv_at hl 0 rfl) ?_
    refine gf_Ex_machine hC hw hj wd_146 d_Ex_goUp_18 ?_
    refine lv_aload_n hx hb d_Ex_goUp_21 rfl (lv_at hl 0 rfl) ?_
    refine gf_Ex_kept hC hw hj wd_147 d_Ex_goUp_22 ?_
    refine lv_aload_n hx hb d_Ex_goUp_25 rfl (lv_at hl 0 rfl) ?_
    refine gf_Ex_depth hC hw hj wd_153 d_Ex_goUp_26 ?_
    refine lv_bipush (v := 43) hx hb d_Ex_goUp_29 (by decide) ?_
    refine lv_imul hx hb d_Ex_goUp_31 ?_
    have o3 := hp.1
    have hp := hp.2
    refine cs_ret_v hC hw (cs_runV (As := [.ref (ad 59), .int ((N1 j 7) * 43)]) (rest := []) hC hw is_56.2 (ci := 3) rfl rfl (cs_sg_is is_56) (c_Ma_bringBack l D cA ad N1 56 is_56 59 is_59 ((N1 j 7) * 43) o3 _) rfl rfl cw_Ex_81 ⟨Nat.le_of_ble_eq_true rfl, Nat.le_of_ble_eq_true rfl⟩ hl.1 rfl rfl (Nat.le_of_ble_eq_true rfl) d_Ex_goUp_32 ⟨Nat.zero_le _, Nat.zero_le _⟩) (fun u4 H locs eu4 hw => ?_)
    have hf := cs_bdE eu4 hf
    exact cs_vret hC hw hr hlk hf d_Ex_goUp_35
theorem d_Ex_finish_0 : decode prog_2_method_11_code 0 = .ok (.aload_n 0, 1) := by decide +kernel
theorem d_Ex_finish_1 : decode prog_2_method_11_code 1 = .ok (.aload_n 0, 1) := by decide +kernel
theorem d_Ex_finish_2 : decode prog_2_method_11_code 2 = .ok (.getfield 27, 3) := by decide +kernel
theorem d_Ex_finish_5 : decode prog_2_method_11_code 5 = .ok (.putfield 41, 3) := by decide +kernel
theorem d_Ex_finish_8 : decode prog_2_method_11_code 8 = .ok (.aload_n 0, 1) := by decide +kernel
theorem d_Ex_finish_9 : decode prog_2_method_11_code 9 = .ok (.getfield 48, 3) := by decide +kernel
theorem d_Ex_finish_12 : decode prog_2_method_11_code 12 = .ok (.ifCond .ge 13, 3) := by decide +kernel
theorem d_Ex_finish_15 : decode prog_2_method_11_code 15 = .ok (.aload_n 0, 1) := by decide +kernel
theorem d_Ex_finish_16 : decode prog_2_method_11_code 16 = .ok (.getfield 31, 3) := by decide +kernel
theorem d_Ex_finish_19 : decode prog_2_method_11_code 19 = .ok (.sipush 3000, 3) := by decide +kernel
theorem d_Ex_finish_22 : decode prog_2_method_11_code 22 = .ok (.if_icmp .le 13, 3) := by decide +kernel
theorem d_Ex_finish_25 : decode prog_2_method_11_code 25 = .ok (.aload_n 0, 1) := by decide +kernel
theorem d_Ex_finish_26 : decode prog_2_method_11_code 26 = .ok (.invokevirtual 71, 3) := by decide +kernel
theorem d_Ex_finish_29 : decode prog_2_method_11_code 29 = .ok (.aload_n 0, 1) := by decide +kernel
theorem d_Ex_finish_30 : decode prog_2_method_11_code 30 = .ok (.bipush (-2), 2) := by decide +kernel
theorem d_Ex_finish_32 : decode prog_2_method_11_code 32 = .ok (.putfield 41, 3) := by decide +kernel
theorem d_Ex_finish_35 : decode prog_2_method_11_code 35 = .ok (.aload_n 0, 1) := by decide +kernel
theorem d_Ex_finish_36 : decode prog_2_method_11_code 36 = .ok (.iconst 1, 1) := by decide +kernel
theorem d_Ex_finish_37 : decode prog_2_method_11_code 37 = .ok (.putfield 37, 3) := by decide +kernel
theorem d_Ex_finish_40 : decode prog_2_method_11_code 40 = .ok (.return_, 1) := by decide +kernel
def f_Ex_finish (M : cs_Mem) (j : Nat) : cs_Mem :=
  cs_bd (cs_up M j (upd (M j) 9 (M j 4))) fun (N1 : cs_Mem) =>
  if 0 ≤ (N1 j 7) then
    cs_bd (f_Ex_dropAll N1 j) fun (u3 : cs_Mem) =>
    cs_bd (cs_up u3 j (upd (u3 j) 9 (-2))) fun (N4 : cs_Mem) =>
    cs_bd (cs_up N4 j (upd (N4 j) 8 1)) fun (N5 : cs_Mem) =>
    N5
  else
    if (N1 j 5) ≤ 3000 then
      cs_bd (cs_up N1 j (upd (N1 j) 8 1)) fun (N8 : cs_Mem) =>
      N8
    else
      cs_bd (f_Ex_dropAll N1 j) fun (u10 : cs_Mem) =>
      cs_bd (cs_up u10 j (upd (u10 j) 9 (-2))) fun (N11 : cs_Mem) =>
      cs_bd (cs_up N11 j (upd (N11 j) 8 1)) fun (N12 : cs_Mem) =>
      N12
set_option maxHeartbeats 4000000 in
set_option maxRecDepth 100000 in
theorem c_Ex_finish (l : Launch) (D : va_G) (cA : Nat → ClassId) (ad : Nat → Nat) (M : cs_Mem) (j : Nat) (hj : cs_is 4 j) : cs_Cv l ⟨"ClassStarter$Explorer", "finish", "()V"⟩ prog_2_method_11_code 1 none ({ frames := 1, cells := 0, slots := 0, locals := 20 }) D cA ad M [.ref (ad j)] (f_Ex_finish M j) := by
  refine cs_entry (by decide) (Nat.le_of_ble_eq_true rfl) (fun p e s m below meth c A ls hC hr hlk _ hw hl => ?_)
  have hx := hC.1
  have hb := hC.2.1
  have hl : lv_has ls 1 [(0, .ref (ad j))] := hl
  generalize hF : f_Ex_finish M j = F
  have hf := hF.symm
  unfold f_Ex_finish at hf
  refine lv_aload_n hx hb d_Ex_finish_0 rfl (lv_at hl 0 rfl) ?_
  refine lv_aload_n hx hb d_Ex_finish_1 rfl (lv_at hl 0 rfl) ?_
  refine gf_Ex_foundCount hC hw hj wd_150 d_Ex_finish_2 ?_
  refine pf_Ex_answer hC hw hj wd_155 d_Ex_finish_5 (fun N1 H locs eN1 hw => ?_)
  have hf := cs_bdE eN1 hf
  refine lv_aload_n hx hb d_Ex_finish_8 rfl (lv_at hl 0 rfl) ?_
  refine gf_Ex_depth hC hw hj wd_153 d_Ex_finish_9 ?_
  refine lv_if_ge (tgt := 25) hx hb d_Ex_finish_12 (by decide) (fun c2 => ?_) (fun c2 => ?_)
  · have hf := hf.trans (if_pos c2)
    refine lv_aload_n hx hb d_Ex_finish_25 rfl (lv_at hl 0 rfl) ?_
    refine cs_ret_v hC hw (cs_runV (As := []) (rest := []) hC hw hj.2 (ci := 4) rfl rfl (cs_sg_is hj) (c_Ex_dropAll l D cA ad N1 j hj _) rfl rfl cw_Ex_71 ⟨Nat.le_of_ble_eq_true rfl, Nat.le_of_ble_eq_true rfl⟩ hl.1 rfl rfl (Nat.le_of_ble_eq_true rfl) d_Ex_finish_26 ⟨Nat.zero_le _, Nat.zero_le _⟩) (fun u3 H locs eu3 hw => ?_)
    have hf := cs_bdE eu3 hf
    refine lv_aload_n hx hb d_Ex_finish_29 rfl (lv_at hl 0 rfl) ?_
    refine lv_bipush (v := (-2)) hx hb d_Ex_finish_30 (by decide) ?_
    refine pf_Ex_answer hC hw hj wd_155 d_Ex_finish_32 (fun N4 H locs eN4 hw => ?_)
    have hf := cs_bdE eN4 hf
    refine lv_aload_n hx hb d_Ex_finish_35 rfl (lv_at hl 0 rfl) ?_
    refine lv_iconst (v := 1) hx hb d_Ex_finish_36 (by decide) ?_
    refine pf_Ex_isKnown hC hw hj wd_154 (Or.inr rfl) d_Ex_finish_37 (fun N5 H locs eN5 hw => ?_)
    have hf := cs_bdE eN5 hf
    exact cs_vret hC hw hr hlk hf d_Ex_finish_40
  · have hf := hf.trans (if_neg c2)
    refine lv_aload_n hx hb d_Ex_finish_15 rfl (lv_at hl 0 rfl) ?_
    refine gf_Ex_orders hC hw hj wd_151 d_Ex_finish_16 ?_
    refine lv_sipush (v := 3000) hx hb d_Ex_finish_19 (by decide) ?_
    refine lv_icmp_le (tgt := 35) hx hb d_Ex_finish_22 (by decide) (fun c7 => ?_) (fun c7 => ?_)
    · have hf := hf.trans (if_pos c7)
      refine lv_aload_n hx hb d_Ex_finish_35 rfl (lv_at hl 0 rfl) ?_
      refine lv_iconst (v := 1) hx hb d_Ex_finish_36 (by decide) ?_
      refine pf_Ex_isKnown hC hw hj wd_154 (Or.inr rfl) d_Ex_finish_37 (fun N8 H locs eN8 hw => ?_)
      have hf := cs_bdE eN8 hf
      exact cs_vret hC hw hr hlk hf d_Ex_finish_40
    · have hf := hf.trans (if_neg c7)
      refine lv_aload_n hx hb d_Ex_finish_25 rfl (lv_at hl 0 rfl) ?_
      refine cs_ret_v hC hw (cs_runV (As := []) (rest := []) hC hw hj.2 (ci := 4) rfl rfl (cs_sg_is hj) (c_Ex_dropAll l D cA ad N1 j hj _) rfl rfl cw_Ex_71 ⟨Nat.le_of_ble_eq_true rfl, Nat.le_of_ble_eq_true rfl⟩ hl.1 rfl rfl (Nat.le_of_ble_eq_true rfl) d_Ex_finish_26 ⟨Nat.zero_le _, Nat.zero_le _⟩) (fun u10 H locs eu10 hw => ?_)
      have hf := cs_bdE eu10 hf
      refine lv_aload_n hx hb d_Ex_finish_29 rfl (lv_at hl 0 rfl) ?_
      refine lv_bipush (v := (-2)) hx hb d_Ex_finish_30 (by decide) ?_
      refine pf_Ex_answer hC hw hj wd_155 d_Ex_finish_32 (fun N11 H locs eN11 hw => ?_)
      have hf := cs_bdE eN11 hf
      refine lv_aload_n hx hb d_Ex_finish_35 rfl (lv_at hl 0 rfl) ?_
      refine lv_iconst (v := 1) hx hb d_Ex_finish_36 (by decide) ?_
      refine pf_Ex_isKnown hC hw hj wd_154 (Or.inr rfl) d_Ex_finish_37 (fun N12 H locs eN12 hw => ?_)
      have hf := cs_bdE eN12 hf
      exact cs_vret hC hw hr hlk hf d_Ex_finish_40
theorem d_Ex_answer_0 : decode prog_2_method_8_code 0 = .ok (.aload_n 0, 1) := by decide +kernel
theorem d_Ex_answer_1 : decode prog_2_method_8_code 1 = .ok (.getfield 41, 3) := by decide +kernel
theorem d_Ex_answer_4 : decode prog_2_method_8_code 4 = .ok (.ireturn, 1) := by decide +kernel
def f_Ex_answer (M : cs_Mem) (j : Nat) : Int32 :=
  M j 9
set_option maxHeartbeats 4000000 in
set_option maxRecDepth 100000 in
theorem c_Ex_answer (l : Launch) (D : va_G) (cA : Nat → ClassId) (ad : Nat → Nat) (M : cs_Mem) (j : Nat) (hj : cs_is 4 j) : cs_Ci l ⟨"ClassStarter$Explorer", "answer", "()I"⟩ prog_2_method_8_code 1 (some .int) ({ frames := 0, cells := 0, slots := 0, locals := 0 }) D cA ad M [.ref (ad j)] ((f_Ex_answer M j, M)) := by
  refine cs_entry (by decide) (Nat.le_of_ble_eq_true rfl) (fun p e s m below meth c A ls hC hr hlk _ hw hl => ?_)
  have hx := hC.1
  have hb := hC.2.1
  have hl : lv_has ls 1 [(0, .ref (ad j))] := hl
  generalize hF : f_Ex_answer M j = F
  have hf := hF.symm
  unfold f_Ex_answer at hf
  refine lv_aload_n hx hb d_Ex_answer_0 rfl (lv_at hl 0 rfl) ?_
  refine gf_Ex_answer hC hw hj wd_155 d_Ex_answer_1 ?_
  exact cs_iret hC hw hr hlk (congrArg (fun z => (z, M)) hf) d_Ex_answer_4
theorem d_Ex_foundCount_0 : decode prog_2_method_2_code 0 = .ok (.aload_n 0, 1) := by decide +kernel
theorem d_Ex_foundCount_1 : decode prog_2_method_2_code 1 = .ok (.getfield 27, 3) := by decide +kernel
theorem d_Ex_foundCount_4 : decode prog_2_method_2_code 4 = .ok (.ireturn, 1) := by decide +kernel
def f_Ex_foundCount (M : cs_Mem) (j : Nat) : Int32 :=
  M j 4
set_option maxHeartbeats 4000000 in
set_option maxRecDepth 100000 in
theorem c_Ex_foundCount (l : Launch) (D : va_G) (cA : Nat → ClassId) (ad : Nat → Nat) (M : cs_Mem) (j : Nat) (hj : cs_is 4 j) : cs_Ci l ⟨"ClassStarter$Explorer", "foundCount", "()I"⟩ prog_2_method_2_code 1 (some .int) ({ frames := 0, cells := 0, slots := 0, locals := 0 }) D cA ad M [.ref (ad j)] ((f_Ex_foundCount M j, M)) := by
  refine cs_entry (by decide) (Nat.le_of_ble_eq_true rfl) (fun p e s m below meth c A ls hC hr hlk _ hw hl => ?_)
  have hx := hC.1
  have hb := hC.2.1
  have hl : lv_has ls 1 [(0, .ref (ad j))] := hl
  generalize hF : f_Ex_foundCount M j = F
  have hf := hF.symm
  unfold f_Ex_foundCount at hf
  refine lv_aload_n hx hb d_Ex_foundCount_0 rfl (lv_at hl 0 rfl) ?_
  refine gf_Ex_foundCount hC hw hj wd_150 d_Ex_foundCount_1 ?_
  exact cs_iret hC hw hr hlk (congrArg (fun z => (z, M)) hf) d_Ex_foundCount_4
theorem d_Ex_foundAt_0 : decode prog_2_method_3_code 0 = .ok (.aload_n 0, 1) := by decide +kernel
theorem d_Ex_foundAt_1 : decode prog_2_method_3_code 1 = .ok (.getfield 20, 3) := by decide +kernel
theorem d_Ex_foundAt_4 : decode prog_2_method_3_code 4 = .ok (.iload_n 1, 1) := by decide +kernel
theorem d_Ex_foundAt_5 : decode prog_2_method_3_code 5 = .ok (.iaload, 1) := by decide +kernel
theorem d_Ex_foundAt_6 : decode prog_2_method_3_code 6 = .ok (.ireturn, 1) := by decide +kernel
def f_Ex_foundAt (M : cs_Mem) (j : Nat) (x1 : Int32) : Int32 :=
  M 61 x1.toNatClampNeg
def pre_Ex_foundAt (M : cs_Mem) (j : Nat) (x1 : Int32) : Prop :=
  (vp_in x1 (cs_ln M 61)) ∧
  True
set_option maxHeartbeats 4000000 in
set_option maxRecDepth 100000 in
theorem c_Ex_foundAt (l : Launch) (D : va_G) (cA : Nat → ClassId) (ad : Nat → Nat) (M : cs_Mem) (j : Nat) (hj : cs_is 4 j) (x1 : Int32) (hp : pre_Ex_foundAt M j x1) : cs_Ci l ⟨"ClassStarter$Explorer", "foundAt", "(I)I"⟩ prog_2_method_3_code 2 (some .int) ({ frames := 0, cells := 0, slots := 0, locals := 0 }) D cA ad M [.ref (ad j), .int x1] ((f_Ex_foundAt M j x1, M)) := by
  refine cs_entry (by decide) (Nat.le_of_ble_eq_true rfl) (fun p e s m below meth c A ls hC hr hlk _ hw hl => ?_)
  have hx := hC.1
  have hb := hC.2.1
  have hl : lv_has ls 2 [(0, .ref (ad j)), (1, .int x1)] := hl
  generalize hF : f_Ex_foundAt M j x1 = F
  have hf := hF.symm
  unfold f_Ex_foundAt at hf
  unfold pre_Ex_foundAt at hp
  refine lv_aload_n hx hb d_Ex_foundAt_0 rfl (lv_at hl 0 rfl) ?_
  refine gf_Ex_found hC hw hj wd_149 d_Ex_foundAt_1 ?_
  refine lv_iload_n hx hb d_Ex_foundAt_4 rfl (lv_at hl 1 rfl) ?_
  have o1 := hp.1
  have hp := hp.2
  refine cs_iald hC hw is_61 o1 d_Ex_foundAt_5 ?_
  exact cs_iret hC hw hr hlk (congrArg (fun z => (z, M)) hf) d_Ex_foundAt_6
theorem d_Ex_orders_0 : decode prog_2_method_4_code 0 = .ok (.aload_n 0, 1) := by decide +kernel
theorem d_Ex_orders_1 : decode prog_2_method_4_code 1 = .ok (.getfield 31, 3) := by decide +kernel
theorem d_Ex_orders_4 : decode prog_2_method_4_code 4 = .ok (.ireturn, 1) := by decide +kernel
def f_Ex_orders (M : cs_Mem) (j : Nat) : Int32 :=
  M j 5
set_option maxHeartbeats 4000000 in
set_option maxRecDepth 100000 in
theorem c_Ex_orders (l : Launch) (D : va_G) (cA : Nat → ClassId) (ad : Nat → Nat) (M : cs_Mem) (j : Nat) (hj : cs_is 4 j) : cs_Ci l ⟨"ClassStarter$Explorer", "orders", "()I"⟩ prog_2_method_4_code 1 (some .int) ({ frames := 0, cells := 0, slots := 0, locals := 0 }) D cA ad M [.ref (ad j)] ((f_Ex_orders M j, M)) := by
  refine cs_entry (by decide) (Nat.le_of_ble_eq_true rfl) (fun p e s m below meth c A ls hC hr hlk _ hw hl => ?_)
  have hx := hC.1
  have hb := hC.2.1
  have hl : lv_has ls 1 [(0, .ref (ad j))] := hl
  generalize hF : f_Ex_orders M j = F
  have hf := hF.symm
  unfold f_Ex_orders at hf
  refine lv_aload_n hx hb d_Ex_orders_0 rfl (lv_at hl 0 rfl) ?_
  refine gf_Ex_orders hC hw hj wd_151 d_Ex_orders_1 ?_
  exact cs_iret hC hw hr hlk (congrArg (fun z => (z, M)) hf) d_Ex_orders_4
theorem d_Ex_stuckOrders_0 : decode prog_2_method_5_code 0 = .ok (.aload_n 0, 1) := by decide +kernel
theorem d_Ex_stuckOrders_1 : decode prog_2_method_5_code 1 = .ok (.getfield 34, 3) := by decide +kernel
theorem d_Ex_stuckOrders_4 : decode prog_2_method_5_code 4 = .ok (.ireturn, 1) := by decide +kernel
def f_Ex_stuckOrders (M : cs_Mem) (j : Nat) : Int32 :=
  M j 6
set_option maxHeartbeats 4000000 in
set_option maxRecDepth 100000 in
theorem c_Ex_stuckOrders (l : Launch) (D : va_G) (cA : Nat → ClassId) (ad : Nat → Nat) (M : cs_Mem) (j : Nat) (hj : cs_is 4 j) : cs_Ci l ⟨"ClassStarter$Explorer", "stuckOrders", "()I"⟩ prog_2_method_5_code 1 (some .int) ({ frames := 0, cells := 0, slots := 0, locals := 0 }) D cA ad M [.ref (ad j)] ((f_Ex_stuckOrders M j, M)) := by
  refine cs_entry (by decide) (Nat.le_of_ble_eq_true rfl) (fun p e s m below meth c A ls hC hr hlk _ hw hl => ?_)
  have hx := hC.1
  have hb := hC.2.1
  have hl : lv_has ls 1 [(0, .ref (ad j))] := hl
  generalize hF : f_Ex_stuckOrders M j = F
  have hf := hF.symm
  unfold f_Ex_stuckOrders at hf
  refine lv_aload_n hx hb d_Ex_stuckOrders_0 rfl (lv_at hl 0 rfl) ?_
  refine gf_Ex_stuckOrders hC hw hj wd_152 d_Ex_stuckOrders_1 ?_
  exact cs_iret hC hw hr hlk (congrArg (fun z => (z, M)) hf) d_Ex_stuckOrders_4
