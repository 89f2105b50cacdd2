theorem d_Mo_actionAt_0 : decode prog_8_method_13_code 0 = .ok (.aload_n 0, 1) := by decide +kernel
theorem d_Mo_actionAt_1 : decode prog_8_method_13_code 1 = .ok (.getfield 62, 3) := by decide +kernel
theorem d_Mo_actionAt_4 : decode prog_8_method_13_code 4 = .ok (.aload_n 0, 1) := by decide +kernel
theorem d_Mo_actionAt_5 : decode prog_8_method_13_code 5 = .ok (.iload_n 1, 1) := by decide +kernel
theorem d_Mo_actionAt_6 : decode prog_8_method_13_code 6 = .ok (.invokevirtual 113, 3) := by decide +kernel
theorem d_Mo_actionAt_9 : decode prog_8_method_13_code 9 = .ok (.iaload, 1) := by decide +kernel
theorem d_Mo_actionAt_10 : decode prog_8_method_13_code 10 = .ok (.istore_n 3, 1) := by decide +kernel
theorem d_Mo_actionAt_11 : decode prog_8_method_13_code 11 = .ok (.iload_n 2, 1) := by decide +kernel
theorem d_Mo_actionAt_12 : decode prog_8_method_13_code 12 = .ok (.aload_n 0, 1) := by decide +kernel
theorem d_Mo_actionAt_13 : decode prog_8_method_13_code 13 = .ok (.iload_n 3, 1) := by decide +kernel
theorem d_Mo_actionAt_14 : decode prog_8_method_13_code 14 = .ok (.invokevirtual 109, 3) := by decide +kernel
theorem d_Mo_actionAt_17 : decode prog_8_method_13_code 17 = .ok (.isub, 1) := by decide +kernel
theorem d_Mo_actionAt_18 : decode prog_8_method_13_code 18 = .ok (.istore 4, 2) := by decide +kernel
theorem d_Mo_actionAt_20 : decode prog_8_method_13_code 20 = .ok (.iload 4, 2) := by decide +kernel
theorem d_Mo_actionAt_22 : decode prog_8_method_13_code 22 = .ok (.ifCond .lt 13, 3) := by decide +kernel
theorem d_Mo_actionAt_25 : decode prog_8_method_13_code 25 = .ok (.iload_n 2, 1) := by decide +kernel
theorem d_Mo_actionAt_26 : decode prog_8_method_13_code 26 = .ok (.aload_n 0, 1) := by decide +kernel
theorem d_Mo_actionAt_27 : decode prog_8_method_13_code 27 = .ok (.iload_n 1, 1) := by decide +kernel
theorem d_Mo_actionAt_28 : decode prog_8_method_13_code 28 = .ok (.iload_n 3, 1) := by decide +kernel
theorem d_Mo_actionAt_29 : decode prog_8_method_13_code 29 = .ok (.invokevirtual 116, 3) := by decide +kernel
theorem d_Mo_actionAt_32 : decode prog_8_method_13_code 32 = .ok (.if_icmp .lt 5, 3) := by decide +kernel
theorem d_Mo_actionAt_35 : decode prog_8_method_13_code 35 = .ok (.iconst (-1), 1) := by decide +kernel
theorem d_Mo_actionAt_36 : decode prog_8_method_13_code 36 = .ok (.ireturn, 1) := by decide +kernel
theorem d_Mo_actionAt_37 : decode prog_8_method_13_code 37 = .ok (.iload_n 3, 1) := by decide +kernel
theorem d_Mo_actionAt_38 : decode prog_8_method_13_code 38 = .ok (.ifCond .ge 15, 3) := by decide +kernel
theorem d_Mo_actionAt_41 : decode prog_8_method_13_code 41 = .ok (.bipush 40, 2) := by decide +kernel
theorem d_Mo_actionAt_43 : decode prog_8_method_13_code 43 = .ok (.iconst 5, 1) := by decide +kernel
theorem d_Mo_actionAt_44 : decode prog_8_method_13_code 44 = .ok (.iload_n 1, 1) := by decide +kernel
theorem d_Mo_actionAt_45 : decode prog_8_method_13_code 45 = .ok (.imul, 1) := by decide +kernel
theorem d_Mo_actionAt_46 : decode prog_8_method_13_code 46 = .ok (.iadd, 1) := by decide +kernel
theorem d_Mo_actionAt_47 : decode prog_8_method_13_code 47 = .ok (.iload 4, 2) := by decide +kernel
theorem d_Mo_actionAt_49 : decode prog_8_method_13_code 49 = .ok (.iadd, 1) := by decide +kernel
theorem d_Mo_actionAt_50 : decode prog_8_method_13_code 50 = .ok (.goto 9, 3) := by decide +kernel
theorem d_Mo_actionAt_53 : decode prog_8_method_13_code 53 = .ok (.iconst 5, 1) := by decide +kernel
theorem d_Mo_actionAt_54 : decode prog_8_method_13_code 54 = .ok (.iload_n 3, 1) := by decide +kernel
theorem d_Mo_actionAt_55 : decode prog_8_method_13_code 55 = .ok (.imul, 1) := by decide +kernel
theorem d_Mo_actionAt_56 : decode prog_8_method_13_code 56 = .ok (.iload 4, 2) := by decide +kernel
theorem d_Mo_actionAt_58 : decode prog_8_method_13_code 58 = .ok (.iadd, 1) := by decide +kernel
theorem d_Mo_actionAt_59 : decode prog_8_method_13_code 59 = .ok (.ireturn, 1) := by decide +kernel
def f_Mo_actionAt_J35 (M : cs_Mem)  : Int32 :=
  (-1)
def f_Mo_actionAt (M : cs_Mem) (j : Nat) (x1 : Int32) (x2 : Int32) : Int32 :=
  cs_bd (f_Mo_top M j x1) fun (r2 : Int32) =>
  cs_bd (M 80 r2.toNatClampNeg) fun (z4 : Int32) =>
  cs_bd (f_Mo_uses M j z4) fun (r6 : Int32) =>
  cs_bd (x2 - r6) fun (z7 : Int32) =>
  if z7 < 0 then
    f_Mo_actionAt_J35 M 
  else
    cs_bd (f_Mo_parts M j x1 z4) fun (r10 : Int32) =>
    if x2 < r10 then
      if 0 ≤ z4 then
        (5 * z4) + z7
      else
        (40 + (5 * x1)) + z7
    else
      f_Mo_actionAt_J35 M 
def pre_Mo_actionAt (M : cs_Mem) (j : Nat) (x1 : Int32) (x2 : Int32) : Prop :=
  (pre_Mo_top M j x1) ∧
  cs_bd (f_Mo_top M j x1) fun (r2 : Int32) =>
  (vp_in r2 (cs_ln M 80)) ∧
  cs_bd (M 80 r2.toNatClampNeg) fun (z4 : Int32) =>
  (pre_Mo_uses M j z4) ∧
  cs_bd (f_Mo_uses M j z4) fun (r6 : Int32) =>
  cs_bd (x2 - r6) fun (z7 : Int32) =>
  (z7 < 0 →
    True
  ) ∧ (¬ (z7 < 0) →
    (pre_Mo_parts M j x1 z4) ∧
    True
  )
set_option maxHeartbeats 4000000 in
set_option maxRecDepth 100000 in
theorem w_Mo_actionAt_J35 {p : Program} {l : Launch} {e : Env} {s : State} {m : MethodId} {args : Array Value} {below : List Frame} {meth : Method} {c : Code} {D : va_G} {cA : Nat → ClassId} {A : Nat → Prop} {ad : Nat → Nat} {F : Int32} (hC : cs_Ctx p s m args c prog_8_method_13_code 5 "ClassStarterModel" D cA A) (hr : meth.sig.returnType = (some .int)) (hlk : meth.locks = false) : ∀ (M : cs_Mem) (H : Heap) (locs : List Loc) (ls : Array Slot), cs_Wd D cA ad M A s H locs → lv_has ls 5 [] → F = f_Mo_actionAt_J35 M  → W p l e ({ frames := 2, cells := 0, slots := 0, locals := 45 }) s m args below meth c H locs 0 0 (MQ below (cs_Qi D cA ad (F, M) A) args s 0 0 A) (F0 m 35 ls []) := by
  have hx := hC.1
  have hb := hC.2.1
  intro M  H locs ls hw hl  hf
  unfold f_Mo_actionAt_J35 at hf
  refine lv_iconst (v := (-1)) hx hb d_Mo_actionAt_35 (by decide) ?_
  exact cs_iret hC hw hr hlk (congrArg (fun z => (z, M)) hf) d_Mo_actionAt_36
set_option maxHeartbeats 4000000 in
set_option maxRecDepth 100000 in
theorem c_Mo_actionAt (l : Launch) (D : va_G) (cA : Nat → ClassId) (ad : Nat → Nat) (M : cs_Mem) (j : Nat) (hj : cs_is 5 j) (x1 : Int32) (x2 : Int32) (hp : pre_Mo_actionAt M j x1 x2) : cs_Ci l ⟨"ClassStarterModel", "actionAt", "(II)I"⟩ prog_8_method_13_code 5 (some .int) ({ frames := 2, cells := 0, slots := 0, locals := 45 }) D cA ad M [.ref (ad j), .int x1, .int x2] ((f_Mo_actionAt M j x1 x2, M)) := by
  refine cs_entry (by decide) (Nat.le_of_ble_eq_true rfl) (fun p e s m below meth c A ls hC hr hlk _ hw hl => ?_)
  have hx := hC.1
  have hb := hC.2.1
  have hl : lv_has ls 5 [(0, .ref (ad j)), (1, .int x1), (2, .int x2)] := hl
  generalize hF : f_Mo_actionAt M j x1 x2 = F
  have hf := hF.symm
  unfold f_Mo_actionAt at hf
  unfold pre_Mo_actionAt at hp
  refine lv_aload_n hx hb d_Mo_actionAt_0 rfl (lv_at hl 0 rfl) ?_
  refine gf_Mo_frame hC hw hj wd_569 d_Mo_actionAt_1 ?_
  refine lv_aload_n hx hb d_Mo_actionAt_4 rfl (lv_at hl 0 rfl) ?_
  refine lv_iload_n hx hb d_Mo_actionAt_5 rfl (lv_at hl 1 rfl) ?_
  have o1 := hp.1
  have hp := hp.2
  refine cs_ret_p hC hw (cs_runV (As := [.int x1]) (rest := [.ref (ad 80)]) hC hw hj.2 (ci := 5) rfl rfl (cs_sg_is hj) (c_Mo_top l D cA ad M j hj x1 o1 _) rfl rfl cw_Mo_113 ⟨Nat.le_of_ble_eq_true rfl, Nat.le_of_ble_eq_true rfl⟩ hl.1 rfl rfl (Nat.le_of_ble_eq_true rfl) d_Mo_actionAt_6 ⟨Nat.zero_le _, Nat.zero_le _⟩) (fun r2 H locs er2 hw => ?_)
  have hp := cs_bdP er2 hp
  have hf := cs_bdE er2 hf
  have o3 := hp.1
  have hp := hp.2
  refine cs_iald hC hw is_80 o3 d_Mo_actionAt_9 ?_
  refine lv_topi (fun z4 ez4 => ?_)
  have hp := cs_bdP ez4 hp
  have hf := cs_bdE ez4 hf
  refine lv_istore_n (lv' := [(3, .int z4), (0, .ref (ad j)), (1, .int x1), (2, .int x2)]) hx hb d_Mo_actionAt_10 rfl hl (by decide) rfl (fun ls hl => ?_)
  refine lv_iload_n hx hb d_Mo_actionAt_11 rfl (lv_at hl 3 rfl) ?_
  refine lv_aload_n hx hb d_Mo_actionAt_12 rfl (lv_at hl 1 rfl) ?_
  refine lv_iload_n hx hb d_Mo_actionAt_13 rfl (lv_at hl 0 rfl) ?_
  have o5 := hp.1
  have hp := hp.2
  refine cs_ret_p hC hw (cs_runV (As := [.int z4]) (rest := [.int x2]) hC hw hj.2 (ci := 5) rfl rfl (cs_sg_is hj) (c_Mo_uses l D cA ad M j hj z4 o5 _) rfl rfl cw_Mo_109 ⟨Nat.le_of_ble_eq_true rfl, Nat.le_of_ble_eq_true rfl⟩ hl.1 rfl rfl (Nat.le_of_ble_eq_true rfl) d_Mo_actionAt_14 ⟨Nat.zero_le _, Nat.zero_le _⟩) (fun r6 H locs er6 hw => ?_)
  have hp := cs_bdP er6 hp
  have hf := cs_bdE er6 hf
  refine lv_isub hx hb d_Mo_actionAt_17 ?_
  refine lv_topi (fun z7 ez7 => ?_)
  have hp := cs_bdP ez7 hp
  have hf := cs_bdE ez7 hf
  refine lv_istore (lv' := [(4, .int z7), (3, .int z4), (0, .ref (ad j)), (1, .int x1), (2, .int x2)]) hx hb d_Mo_actionAt_18 hl (by decide) rfl (fun ls hl => ?_)
  refine lv_iload hx hb d_Mo_actionAt_20 (lv_at hl 0 rfl) ?_
  refine lv_if_lt (tgt := 35) hx hb d_Mo_actionAt_22 (by decide) (fun c8 => ?_) (fun c8 => ?_)
  · have hp := hp.1 c8
    have hf := hf.trans (if_pos c8)
    exact w_Mo_actionAt_J35 hC hr hlk M  _ _ ls hw (lv_sub hl [] rfl) hf
  · have hp := hp.2 c8
    have hf := hf.trans (if_neg c8)
    refine lv_iload_n hx hb d_Mo_actionAt_25 rfl (lv_at hl 4 rfl) ?_
    refine lv_aload_n hx hb d_Mo_actionAt_26 rfl (lv_at hl 2 rfl) ?_
    refine lv_iload_n hx hb d_Mo_actionAt_27 rfl (lv_at hl 3 rfl) ?_
    refine lv_iload_n hx hb d_Mo_actionAt_28 rfl (lv_at hl 1 rfl) ?_
    have o9 := hp.1
    have hp := hp.2
    refine cs_ret_p hC hw (cs_runV (As := [.int x1, .int z4]) (rest := [.int x2]) hC hw hj.2 (ci := 5) rfl rfl (cs_sg_is hj) (c_Mo_parts l D cA ad M j hj x1 z4 o9 _) rfl rfl cw_Mo_116 ⟨Nat.le_of_ble_eq_true rfl, Nat.le_of_ble_eq_true rfl⟩ hl.1 rfl rfl (Nat.le_of_ble_eq_true rfl) d_Mo_actionAt_29 ⟨Nat.zero_le _, Nat.zero_le _⟩) (fun r10 H locs er10 hw => ?_)
    have hf := cs_bdE er10 hf
    refine lv_icmp_lt (tgt := 37) hx hb d_Mo_actionAt_32 (by decide) (fun c11 => ?_) (fun c11 => ?_)
    · have hf := hf.trans (if_pos c11)
      refine lv_iload_n hx hb d_Mo_actionAt_37 rfl (lv_at hl 1 rfl) ?_
      refine lv_if_ge (tgt := 53) hx hb d_Mo_actionAt_38 (by decide) (fun c12 => ?_) (fun c12 => ?_)
      · have hf := hf.trans (if_pos c12)
        refine lv_iconst (v := 5) hx hb d_Mo_actionAt_53 (by decide) ?_
        refine lv_iload_n hx hb d_Mo_actionAt_54 rfl (lv_at hl 1 rfl) ?_
        refine lv_imul hx hb d_Mo_actionAt_55 ?_
        refine lv_iload hx hb d_Mo_actionAt_56 (lv_at hl 0 rfl) ?_
        refine lv_iadd hx hb d_Mo_actionAt_58 ?_
        exact cs_iret hC hw hr hlk (congrArg (fun z => (z, M)) hf) d_Mo_actionAt_59
      · have hf := hf.trans (if_neg c12)
        refine lv_bipush (v := 40) hx hb d_Mo_actionAt_41 (by decide) ?_
        refine lv_iconst (v := 5) hx hb d_Mo_actionAt_43 (by decide) ?_
        refine lv_iload_n hx hb d_Mo_actionAt_44 rfl (lv_at hl 3 rfl) ?_
        refine lv_imul hx hb d_Mo_actionAt_45 ?_
        refine lv_iadd hx hb d_Mo_actionAt_46 ?_
        refine lv_iload hx hb d_Mo_actionAt_47 (lv_at hl 0 rfl) ?_
        refine lv_iadd hx hb d_Mo_actionAt_49 ?_
        refine lv_goto (tgt := 59) hx hb d_Mo_actionAt_50 (by decide) ?_
        exact cs_iret hC hw hr hlk (congrArg (fun z => (z, M)) hf) d_Mo_actionAt_59
    · have hf := hf.trans (if_neg c11)
      exact w_Mo_actionAt_J35 hC hr hlk M  _ _ ls hw (lv_sub hl [] rfl) hf
theorem d_Mo_usedNow_0 : decode prog_8_method_14_code 0 = .ok (.aload_n 0, 1) := by decide +kernel
theorem d_Mo_usedNow_1 : decode prog_8_method_14_code 1 = .ok (.getfield 62, 3) := by decide +kernel
theorem d_Mo_usedNow_4 : decode prog_8_method_14_code 4 = .ok (.aload_n 0, 1) := by decide +kernel
theorem d_Mo_usedNow_5 : decode prog_8_method_14_code 5 = .ok (.iload_n 1, 1) := by decide +kernel
theorem d_Mo_usedNow_6 : decode prog_8_method_14_code 6 = .ok (.invokevirtual 113, 3) := by decide +kernel
theorem d_Mo_usedNow_9 : decode prog_8_method_14_code 9 = .ok (.iaload, 1) := by decide +kernel
theorem d_Mo_usedNow_10 : decode prog_8_method_14_code 10 = .ok (.istore_n 2, 1) := by decide +kernel
theorem d_Mo_usedNow_11 : decode prog_8_method_14_code 11 = .ok (.aload_n 0, 1) := by decide +kernel
theorem d_Mo_usedNow_12 : decode prog_8_method_14_code 12 = .ok (.getfield 65, 3) := by decide +kernel
theorem d_Mo_usedNow_15 : decode prog_8_method_14_code 15 = .ok (.aload_n 0, 1) := by decide +kernel
theorem d_Mo_usedNow_16 : decode prog_8_method_14_code 16 = .ok (.iload_n 1, 1) := by decide +kernel
theorem d_Mo_usedNow_17 : decode prog_8_method_14_code 17 = .ok (.invokevirtual 113, 3) := by decide +kernel
theorem d_Mo_usedNow_20 : decode prog_8_method_14_code 20 = .ok (.iaload, 1) := by decide +kernel
theorem d_Mo_usedNow_21 : decode prog_8_method_14_code 21 = .ok (.istore_n 3, 1) := by decide +kernel
theorem d_Mo_usedNow_22 : decode prog_8_method_14_code 22 = .ok (.iload_n 3, 1) := by decide +kernel
theorem d_Mo_usedNow_23 : decode prog_8_method_14_code 23 = .ok (.aload_n 0, 1) := by decide +kernel
theorem d_Mo_usedNow_24 : decode prog_8_method_14_code 24 = .ok (.iload_n 1, 1) := by decide +kernel
theorem d_Mo_usedNow_25 : decode prog_8_method_14_code 25 = .ok (.iload_n 2, 1) := by decide +kernel
theorem d_Mo_usedNow_26 : decode prog_8_method_14_code 26 = .ok (.invokevirtual 116, 3) := by decide +kernel
theorem d_Mo_usedNow_29 : decode prog_8_method_14_code 29 = .ok (.if_icmp .lt 5, 3) := by decide +kernel
theorem d_Mo_usedNow_32 : decode prog_8_method_14_code 32 = .ok (.iconst (-1), 1) := by decide +kernel
theorem d_Mo_usedNow_33 : decode prog_8_method_14_code 33 = .ok (.ireturn, 1) := by decide +kernel
theorem d_Mo_usedNow_34 : decode prog_8_method_14_code 34 = .ok (.aload_n 0, 1) := by decide +kernel
theorem d_Mo_usedNow_35 : decode prog_8_method_14_code 35 = .ok (.iload_n 1, 1) := by decide +kernel
theorem d_Mo_usedNow_36 : decode prog_8_method_14_code 36 = .ok (.iload_n 3, 1) := by decide +kernel
theorem d_Mo_usedNow_37 : decode prog_8_method_14_code 37 = .ok (.invokevirtual 120, 3) := by decide +kernel
theorem d_Mo_usedNow_40 : decode prog_8_method_14_code 40 = .ok (.istore 4, 2) := by decide +kernel
theorem d_Mo_usedNow_42 : decode prog_8_method_14_code 42 = .ok (.iload 4, 2) := by decide +kernel
theorem d_Mo_usedNow_44 : decode prog_8_method_14_code 44 = .ok (.ifCond .ge 10, 3) := by decide +kernel
theorem d_Mo_usedNow_47 : decode prog_8_method_14_code 47 = .ok (.aload_n 0, 1) := by decide +kernel
theorem d_Mo_usedNow_48 : decode prog_8_method_14_code 48 = .ok (.iload_n 2, 1) := by decide +kernel
theorem d_Mo_usedNow_49 : decode prog_8_method_14_code 49 = .ok (.iload_n 3, 1) := by decide +kernel
theorem d_Mo_usedNow_50 : decode prog_8_method_14_code 50 = .ok (.invokevirtual 123, 3) := by decide +kernel
theorem d_Mo_usedNow_53 : decode prog_8_method_14_code 53 = .ok (.ireturn, 1) := by decide +kernel
theorem d_Mo_usedNow_54 : decode prog_8_method_14_code 54 = .ok (.aload_n 0, 1) := by decide +kernel
theorem d_Mo_usedNow_55 : decode prog_8_method_14_code 55 = .ok (.getfield 38, 3) := by decide +kernel
theorem d_Mo_usedNow_58 : decode prog_8_method_14_code 58 = .ok (.iload 4, 2) := by decide +kernel
theorem d_Mo_usedNow_60 : decode prog_8_method_14_code 60 = .ok (.iaload, 1) := by decide +kernel
theorem d_Mo_usedNow_61 : decode prog_8_method_14_code 61 = .ok (.ifCond .ne 13, 3) := by decide +kernel
theorem d_Mo_usedNow_64 : decode prog_8_method_14_code 64 = .ok (.aload_n 0, 1) := by decide +kernel
theorem d_Mo_usedNow_65 : decode prog_8_method_14_code 65 = .ok (.getfield 41, 3) := by decide +kernel
theorem d_Mo_usedNow_68 : decode prog_8_method_14_code 68 = .ok (.iload 4, 2) := by decide +kernel
theorem d_Mo_usedNow_70 : decode prog_8_method_14_code 70 = .ok (.iaload, 1) := by decide +kernel
theorem d_Mo_usedNow_71 : decode prog_8_method_14_code 71 = .ok (.goto 25, 3) := by decide +kernel
theorem d_Mo_usedNow_74 : decode prog_8_method_14_code 74 = .ok (.aload_n 0, 1) := by decide +kernel
theorem d_Mo_usedNow_75 : decode prog_8_method_14_code 75 = .ok (.getfield 38, 3) := by decide +kernel
theorem d_Mo_usedNow_78 : decode prog_8_method_14_code 78 = .ok (.iload 4, 2) := by decide +kernel
theorem d_Mo_usedNow_80 : decode prog_8_method_14_code 80 = .ok (.iaload, 1) := by decide +kernel
theorem d_Mo_usedNow_81 : decode prog_8_method_14_code 81 = .ok (.iconst 2, 1) := by decide +kernel
theorem d_Mo_usedNow_82 : decode prog_8_method_14_code 82 = .ok (.if_icmp .ne 13, 3) := by decide +kernel
theorem d_Mo_usedNow_85 : decode prog_8_method_14_code 85 = .ok (.aload_n 0, 1) := by decide +kernel
theorem d_Mo_usedNow_86 : decode prog_8_method_14_code 86 = .ok (.getfield 44, 3) := by decide +kernel
theorem d_Mo_usedNow_89 : decode prog_8_method_14_code 89 = .ok (.iload 4, 2) := by decide +kernel
theorem d_Mo_usedNow_91 : decode prog_8_method_14_code 91 = .ok (.iaload, 1) := by decide +kernel
theorem d_Mo_usedNow_92 : decode prog_8_method_14_code 92 = .ok (.goto 4, 3) := by decide +kernel
theorem d_Mo_usedNow_95 : decode prog_8_method_14_code 95 = .ok (.iconst (-1), 1) := by decide +kernel
theorem d_Mo_usedNow_96 : decode prog_8_method_14_code 96 = .ok (.istore 5, 2) := by decide +kernel
theorem d_Mo_usedNow_98 : decode prog_8_method_14_code 98 = .ok (.iload 5, 2) := by decide +kernel
theorem d_Mo_usedNow_100 : decode prog_8_method_14_code 100 = .ok (.aload_n 0, 1) := by decide +kernel
theorem d_Mo_usedNow_101 : decode prog_8_method_14_code 101 = .ok (.getfield 87, 3) := by decide +kernel
theorem d_Mo_usedNow_104 : decode prog_8_method_14_code 104 = .ok (.if_icmp .lt 9, 3) := by decide +kernel
theorem d_Mo_usedNow_107 : decode prog_8_method_14_code 107 = .ok (.bipush 100, 2) := by decide +kernel
theorem d_Mo_usedNow_109 : decode prog_8_method_14_code 109 = .ok (.iload 5, 2) := by decide +kernel
theorem d_Mo_usedNow_111 : decode prog_8_method_14_code 111 = .ok (.iadd, 1) := by decide +kernel
theorem d_Mo_usedNow_112 : decode prog_8_method_14_code 112 = .ok (.ireturn, 1) := by decide +kernel
theorem d_Mo_usedNow_113 : decode prog_8_method_14_code 113 = .ok (.aload_n 0, 1) := by decide +kernel
theorem d_Mo_usedNow_114 : decode prog_8_method_14_code 114 = .ok (.getfield 38, 3) := by decide +kernel
theorem d_Mo_usedNow_117 : decode prog_8_method_14_code 117 = .ok (.iload 4, 2) := by decide +kernel
theorem d_Mo_usedNow_119 : decode prog_8_method_14_code 119 = .ok (.iaload, 1) := by decide +kernel
theorem d_Mo_usedNow_120 : decode prog_8_method_14_code 120 = .ok (.iconst 2, 1) := by decide +kernel
theorem d_Mo_usedNow_121 : decode prog_8_method_14_code 121 = .ok (.if_icmp .ne 28, 3) := by decide +kernel
theorem d_Mo_usedNow_124 : decode prog_8_method_14_code 124 = .ok (.aload_n 0, 1) := by decide +kernel
theorem d_Mo_usedNow_125 : decode prog_8_method_14_code 125 = .ok (.getfield 41, 3) := by decide +kernel
theorem d_Mo_usedNow_128 : decode prog_8_method_14_code 128 = .ok (.iload 4, 2) := by decide +kernel
theorem d_Mo_usedNow_130 : decode prog_8_method_14_code 130 = .ok (.iaload, 1) := by decide +kernel
theorem d_Mo_usedNow_131 : decode prog_8_method_14_code 131 = .ok (.iconst 1, 1) := by decide +kernel
theorem d_Mo_usedNow_132 : decode prog_8_method_14_code 132 = .ok (.if_icmp .ne 17, 3) := by decide +kernel
theorem d_Mo_usedNow_135 : decode prog_8_method_14_code 135 = .ok (.aload_n 0, 1) := by decide +kernel
theorem d_Mo_usedNow_136 : decode prog_8_method_14_code 136 = .ok (.getfield 29, 3) := by decide +kernel
theorem d_Mo_usedNow_139 : decode prog_8_method_14_code 139 = .ok (.iload 5, 2) := by decide +kernel
theorem d_Mo_usedNow_141 : decode prog_8_method_14_code 141 = .ok (.baload, 1) := by decide +kernel
theorem d_Mo_usedNow_142 : decode prog_8_method_14_code 142 = .ok (.ifCond .eq 7, 3) := by decide +kernel
theorem d_Mo_usedNow_145 : decode prog_8_method_14_code 145 = .ok (.iconst (-1), 1) := by decide +kernel
theorem d_Mo_usedNow_146 : decode prog_8_method_14_code 146 = .ok (.goto 5, 3) := by decide +kernel
theorem d_Mo_usedNow_149 : decode prog_8_method_14_code 149 = .ok (.iload 5, 2) := by decide +kernel
theorem d_Mo_usedNow_151 : decode prog_8_method_14_code 151 = .ok (.ireturn, 1) := by decide +kernel
def f_Mo_usedNow (M : cs_Mem) (j : Nat) (x1 : Int32) : Int32 :=
  cs_bd (f_Mo_top M j x1) fun (r2 : Int32) =>
  cs_bd (M 80 r2.toNatClampNeg) fun (z4 : Int32) =>
  cs_bd (f_Mo_top M j x1) fun (r6 : Int32) =>
  cs_bd (M 81 r6.toNatClampNeg) fun (z8 : Int32) =>
  cs_bd (f_Mo_parts M j x1 z4) fun (r10 : Int32) =>
  if z8 < r10 then
    cs_bd (f_Mo_actionAt M j x1 z8) fun (r13 : Int32) =>
    if 0 ≤ r13 then
      if (M 72 r13.toNatClampNeg) = 0 then
        cs_bd (M 73 r13.toNatClampNeg) fun (z36 : Int32) =>
        if z36 < (M j 0) then
          if (M 72 r13.toNatClampNeg) = 2 then
            if (M 73 r13.toNatClampNeg) = 1 then
              if (M 69 z36.toNatClampNeg) = 0 then
                z36
              else
                (-1)
            else
              z36
          else
            z36
        else
          100 + z36
      else
        if (M 72 r13.toNatClampNeg) = 2 then
          cs_bd (M 74 r13.toNatClampNeg) fun (z27 : Int32) =>
          if z27 < (M j 0) then
            if (M 72 r13.toNatClampNeg) = 2 then
              if (M 73 r13.toNatClampNeg) = 1 then
                if (M 69 z27.toNatClampNeg) = 0 then
                  z27
                else
                  (-1)
              else
                z27
            else
              z27
          else
            100 + z27
        else
          if (-1) < (M j 0) then
            if (M 72 r13.toNatClampNeg) = 2 then
              if (M 73 r13.toNatClampNeg) = 1 then
                if (M 69 ((-1) : Int32).toNatClampNeg) = 0 then
                  (-1)
                else
                  (-1)
              else
                (-1)
            else
              (-1)
          else
            100 + (-1)
    else
      cs_bd (f_Mo_useAt M j z4 z8) fun (r45 : Int32) =>
      r45
  else
    (-1)
def pre_Mo_usedNow (M : cs_Mem) (j : Nat) (x1 : Int32) : Prop :=
  (pre_Mo_top M j x1) ∧
  cs_bd (f_Mo_top M j x1) fun (r2 : Int32) =>
  (vp_in r2 (cs_ln M 80)) ∧
  cs_bd (M 80 r2.toNatClampNeg) fun (z4 : Int32) =>
  (pre_Mo_top M j x1) ∧
  cs_bd (f_Mo_top M j x1) fun (r6 : Int32) =>
  (vp_in r6 (cs_ln M 81)) ∧
  cs_bd (M 81 r6.toNatClampNeg) fun (z8 : Int32) =>
  (pre_Mo_parts M j x1 z4) ∧
  cs_bd (f_Mo_parts M j x1 z4) fun (r10 : Int32) =>
  (z8 < r10 →
    (pre_Mo_actionAt M j x1 z8) ∧
    cs_bd (f_Mo_actionAt M j x1 z8) fun (r13 : Int32) =>
    (0 ≤ r13 →
      (vp_in r13 (cs_ln M 72)) ∧
      ((M 72 r13.toNatClampNeg) = 0 →
        (vp_in r13 (cs_ln M 73)) ∧
        cs_bd (M 73 r13.toNatClampNeg) fun (z36 : Int32) =>
        (z36 < (M j 0) →
          (vp_in r13 (cs_ln M 72)) ∧
          ((M 72 r13.toNatClampNeg) = 2 →
            (vp_in r13 (cs_ln M 73)) ∧
            ((M 73 r13.toNatClampNeg) = 1 →
              (vp_in z36 (cs_ln M 69)) ∧
              True
            ) ∧ (¬ ((M 73 r13.toNatClampNeg) = 1) →
              True
            )
          ) ∧ (¬ ((M 72 r13.toNatClampNeg) = 2) →
            True
          )
        ) ∧ (¬ (z36 < (M j 0)) →
          True
        )
      ) ∧ (¬ ((M 72 r13.toNatClampNeg) = 0) →
        (vp_in r13 (cs_ln M 72)) ∧
        ((M 72 r13.toNatClampNeg) = 2 →
          (vp_in r13 (cs_ln M 74)) ∧
          cs_bd (M 74 r13.toNatClampNeg) fun (z27 : Int32) =>
          (z27 < (M j 0) →
            (vp_in r13 (cs_ln M 72)) ∧
            ((M 72 r13.toNatClampNeg) = 2 →
              (vp_in r13 (cs_ln M 73)) ∧
              ((M 73 r13.toNatClampNeg) = 1 →
                (vp_in z27 (cs_ln M 69)) ∧
                True
              ) ∧ (¬ ((M 73 r13.toNatClampNeg) = 1) →
                True
              )
            ) ∧ (¬ ((M 72 r13.toNatClampNeg) = 2) →
              True
            )
          ) ∧ (¬ (z27 < (M j 0)) →
            True
          )
        ) ∧ (¬ ((M 72 r13.toNatClampNeg) = 2) →
          ((-1) < (M j 0) →
            (vp_in r13 (cs_ln M 72)) ∧
            ((M 72 r13.toNatClampNeg) = 2 →
              (vp_in r13 (cs_ln M 73)) ∧
              ((M 73 r13.toNatClampNeg) = 1 →
                (vp_in (-1) (cs_ln M 69)) ∧
                True
              ) ∧ (¬ ((M 73 r13.toNatClampNeg) = 1) →
                True
              )
            ) ∧ (¬ ((M 72 r13.toNatClampNeg) = 2) →
              True
            )
          ) ∧ (¬ ((-1) < (M j 0)) →
            True
          )
        )
      )
    ) ∧ (¬ (0 ≤ r13) →
      (pre_Mo_useAt M j z4 z8) ∧
      True
    )
  ) ∧ (¬ (z8 < r10) →
    True
  )
set_option maxHeartbeats 4000000 in
set_option maxRecDepth 100000 in
theorem c_Mo_usedNow (l : Launch) (D : va_G) (cA : Nat → ClassId) (ad : Nat → Nat) (M : cs_Mem) (j : Nat) (hj : cs_is 5 j) (x1 : Int32) (hp : pre_Mo_usedNow M j x1) : cs_Ci l ⟨"ClassStarterModel", "usedNow", "(I)I"⟩ prog_8_method_14_code 6 (some .int) ({ frames := 3, cells := 0, slots := 0, locals := 69 }) D cA ad M [.ref (ad j), .int x1] ((f_Mo_usedNow M j x1, M)) := by
  refine cs_entry (by decide) (Nat.le_of_ble_eq_true rfl) (fun p e s m below meth c A ls hC hr hlk _ hw hl => ?_)
  have hx := hC.1
  have hb := hC.2.1
  have hl : lv_has ls 6 [(0, .ref (ad j)), (1, .int x1)] := hl
  generalize hF : f_Mo_usedNow M j x1 = F
  have hf := hF.symm
  unfold f_Mo_usedNow at hf
  unfold pre_Mo_usedNow at hp
  refine lv_aload_n hx hb d_Mo_usedNow_0 rfl (lv_at hl 0 rfl) ?_
  refine gf_Mo_frame hC hw hj wd_569 d_Mo_usedNow_1 ?_
  refine lv_aload_n hx hb d_Mo_usedNow_4 rfl (lv_at hl 0 rfl) ?_
  refine lv_iload_n hx hb d_Mo_usedNow_5 rfl (lv_at hl 1 rfl) ?_
  have o1 := hp.1
  have hp := hp.2
  refine cs_ret_p hC hw (cs_runV (As := [.int x1]) (rest := [.ref (ad 80)]) hC hw hj.2 (ci := 5) rfl rfl (cs_sg_is hj) (c_Mo_top l D cA ad M j hj x1 o1 _) rfl rfl cw_Mo_113 ⟨Nat.le_of_ble_eq_true rfl, Nat.le_of_ble_eq_true rfl⟩ hl.1 rfl rfl (Nat.le_of_ble_eq_true rfl) d_Mo_usedNow_6 ⟨Nat.zero_le _, Nat.zero_le _⟩) (fun r2 H locs er2 hw => ?_)
  have hp := cs_bdP er2 hp
  have hf := cs_bdE er2 hf
  have o3 := hp.1
  have hp := hp.2
  refine cs_iald hC hw is_80 o3 d_Mo_usedNow_9 ?_
  refine lv_topi (fun z4 ez4 => ?_)
  have hp := cs_bdP ez4 hp
  have hf := cs_bdE ez4 hf
  refine lv_istore_n (lv' := [(2, .int z4), (0, .ref (ad j)), (1, .int x1)]) hx hb d_Mo_usedNow_10 rfl hl (by decide) rfl (fun ls hl => ?_)
  refine lv_aload_n hx hb d_Mo_usedNow_11 rfl (lv_at hl 1 rfl) ?_
  refine gf_Mo_part hC hw hj wd_570 d_Mo_usedNow_12 ?_
  refine lv_aload_n hx hb d_Mo_usedNow_15 rfl (lv_at hl 1 rfl) ?_
  refine lv_iload_n hx hb d_Mo_usedNow_16 rfl (lv_at hl 2 rfl) ?_
  have o5 := hp.1
  have hp := hp.2
  refine cs_ret_p hC hw (cs_runV (As := [.int x1]) (rest := [.ref (ad 81)]) hC hw hj.2 (ci := 5) rfl rfl (cs_sg_is hj) (c_Mo_top l D cA ad M j hj x1 o5 _) rfl rfl cw_Mo_113 ⟨Nat.le_of_ble_eq_true rfl, Nat.le_of_ble_eq_true rfl⟩ hl.1 rfl rfl (Nat.le_of_ble_eq_true rfl) d_Mo_usedNow_17 ⟨Nat.zero_le _, Nat.zero_le _⟩) (fun r6 H locs er6 hw => ?_)
  have hp := cs_bdP er6 hp
  have hf := cs_bdE er6 hf
  have o7 := hp.1
  have hp := hp.2
  refine cs_iald hC hw is_81 o7 d_Mo_usedNow_20 ?_
  refine lv_topi (fun z8 ez8 => ?_)
  have hp := cs_bdP ez8 hp
  have hf := cs_bdE ez8 hf
  refine lv_istore_n (lv' := [(3, .int z8), (2, .int z4), (0, .ref (ad j)), (1, .int x1)]) hx hb d_Mo_usedNow_21 rfl hl (by decide) rfl (fun ls hl => ?_)
  refine lv_iload_n hx hb d_Mo_usedNow_22 rfl (lv_at hl 0 rfl) ?_
  refine lv_aload_n hx hb d_Mo_usedNow_23 rfl (lv_at hl 2 rfl) ?_
  refine lv_iload_n hx hb d_Mo_usedNow_24 rfl (lv_at hl 3 rfl) ?_
  refine lv_iload_n hx hb d_Mo_usedNow_25 rfl (lv_at hl 1 rfl) ?_
  have o9 := hp.1
  have hp := hp.2
  refine cs_ret_p hC hw (cs_runV (As := [.int x1, .int z4]) (rest := [.int z8]) hC hw hj.2 (ci := 5) rfl rfl (cs_sg_is hj) (c_Mo_parts l D cA ad M j hj x1 z4 o9 _) rfl rfl cw_Mo_116 ⟨Nat.le_of_ble_eq_true rfl, Nat.le_of_ble_eq_true rfl⟩ hl.1 rfl rfl (Nat.le_of_ble_eq_true rfl) d_Mo_usedNow_26 ⟨Nat.zero_le _, Nat.zero_le _⟩) (fun r10 H locs er10 hw => ?_)
  have hp := cs_bdP er10 hp
  have hf := cs_bdE er10 hf
  refine lv_icmp_lt (tgt := 34) hx hb d_Mo_usedNow_29 (by decide) (fun c11 => ?_) (fun c11 => ?_)
  · have hp := hp.1 c11
    have hf := hf.trans (if_pos c11)
    refine lv_aload_n hx hb d_Mo_usedNow_34 rfl (lv_at hl 2 rfl) ?_
    refine lv_iload_n hx hb d_Mo_usedNow_35 rfl (lv_at hl 3 rfl) ?_
    refine lv_iload_n hx hb d_Mo_usedNow_36 rfl (lv_at hl 0 rfl) ?_
    have o12 := hp.1
    have hp := hp.2
    refine cs_ret_p hC hw (cs_runV (As := [.int x1, .int z8]) (rest := []) hC hw hj.2 (ci := 5) rfl rfl (cs_sg_is hj) (c_Mo_actionAt l D cA ad M j hj x1 z8 o12 _) rfl rfl cw_Mo_120 ⟨Nat.le_of_ble_eq_true rfl, Nat.le_of_ble_eq_true rfl⟩ hl.1 rfl rfl (Nat.le_of_ble_eq_true rfl) d_Mo_usedNow_37 ⟨Nat.zero_le _, Nat.zero_le _⟩) (fun r13 H locs er13 hw => ?_)
    have hp := cs_bdP er13 hp
    have hf := cs_bdE er13 hf
    refine lv_istore (lv' := [(4, .int r13), (3, .int z8), (2, .int z4), (0, .ref (ad j)), (1, .int x1)]) hx hb d_Mo_usedNow_40 hl (by decide) rfl (fun ls hl => ?_)
    refine lv_iload hx hb d_Mo_usedNow_42 (lv_at hl 0 rfl) ?_
    refine lv_if_ge (tgt := 54) hx hb d_Mo_usedNow_44 (by decide) (fun c14 => ?_) (fun c14 => ?_)
    · have hp := hp.1 c14
      have hf := hf.trans (if_pos c14)
      refine lv_aload_n hx hb d_Mo_usedNow_54 rfl (lv_at hl 3 rfl) ?_
      refine gf_Mo_act hC hw hj wd_559 d_Mo_usedNow_55 ?_
      refine lv_iload hx hb d_Mo_usedNow_58 (lv_at hl 0 rfl) ?_
      have o15 := hp.1
      have hp := hp.2
      refine cs_iald hC hw is_72 o15 d_Mo_usedNow_60 ?_
      refine lv_if_ne (tgt := 74) hx hb d_Mo_usedNow_61 (by decide) (fun c16 => ?_) (fun c16 => ?_)
      · have hp := hp.2 c16
        have hf := hf.trans (if_neg c16)
        refine lv_aload_n hx hb d_Mo_usedNow_74 rfl (lv_at hl 3 rfl) ?_
        refine gf_Mo_act hC hw hj wd_559 d_Mo_usedNow_75 ?_
        refine lv_iload hx hb d_Mo_usedNow_78 (lv_at hl 0 rfl) ?_
        have o17 := hp.1
        have hp := hp.2
        refine cs_iald hC hw is_72 o17 d_Mo_usedNow_80 ?_
        refine lv_iconst (v := 2) hx hb d_Mo_usedNow_81 (by decide) ?_
        refine lv_icmp_ne (tgt := 95) hx hb d_Mo_usedNow_82 (by decide) (fun c18 => ?_) (fun c18 => ?_)
        · have hp := hp.2 c18
          have hf := hf.trans (if_neg c18)
          refine lv_iconst (v := (-1)) hx hb d_Mo_usedNow_95 (by decide) ?_
          refine lv_istore (lv' := [(5, .int (-1)), (4, .int r13), (3, .int z8), (2, .int z4), (0, .ref (ad j)), (1, .int x1)]) hx hb d_Mo_usedNow_96 hl (by decide) rfl (fun ls hl => ?_)
          refine lv_iload hx hb d_Mo_usedNow_98 (lv_at hl 0 rfl) ?_
          refine lv_aload_n hx hb d_Mo_usedNow_100 rfl (lv_at hl 4 rfl) ?_
          refine gf_Mo_classes hC hw hj wd_549 d_Mo_usedNow_101 ?_
          refine lv_icmp_lt (tgt := 113) hx hb d_Mo_usedNow_104 (by decide) (fun c19 => ?_) (fun c19 => ?_)
          · have hp := hp.1 c19
            have hf := hf.trans (if_pos c19)
            refine lv_aload_n hx hb d_Mo_usedNow_113 rfl (lv_at hl 4 rfl) ?_
            refine gf_Mo_act hC hw hj wd_559 d_Mo_usedNow_114 ?_
            refine lv_iload hx hb d_Mo_usedNow_117 (lv_at hl 1 rfl) ?_
            have o20 := hp.1
            have hp := hp.2
            refine cs_iald hC hw is_72 o20 d_Mo_usedNow_119 ?_
            refine lv_iconst (v := 2) hx hb d_Mo_usedNow_120 (by decide) ?_
            refine lv_icmp_ne (tgt := 149) hx hb d_Mo_usedNow_121 (by decide) (fun c21 => ?_) (fun c21 => ?_)
            · have hp := hp.2 c21
              have hf := hf.trans (if_neg c21)
              refine lv_iload hx hb d_Mo_usedNow_149 (lv_at hl 0 rfl) ?_
              exact cs_iret hC hw hr hlk (congrArg (fun z => (z, M)) hf) d_Mo_usedNow_151
            · have hp := hp.1 c21
              have hf := hf.trans (if_pos c21)
              refine lv_aload_n hx hb d_Mo_usedNow_124 rfl (lv_at hl 4 rfl) ?_
              refine gf_Mo_actA hC hw hj wd_560 d_Mo_usedNow_125 ?_
              refine lv_iload hx hb d_Mo_usedNow_128 (lv_at hl 1 rfl) ?_
              have o22 := hp.1
              have hp := hp.2
              refine cs_iald hC hw is_73 o22 d_Mo_usedNow_130 ?_
              refine lv_iconst (v := 1) hx hb d_Mo_usedNow_131 (by decide) ?_
              refine lv_icmp_ne (tgt := 149) hx hb d_Mo_usedNow_132 (by decide) (fun c23 => ?_) (fun c23 => ?_)
              · have hp := hp.2 c23
                have hf := hf.trans (if_neg c23)
                refine lv_iload hx hb d_Mo_usedNow_149 (lv_at hl 0 rfl) ?_
                exact cs_iret hC hw hr hlk (congrArg (fun z => (z, M)) hf) d_Mo_usedNow_151
              · have hp := hp.1 c23
                have hf := hf.trans (if_pos c23)
                refine lv_aload_n hx hb d_Mo_usedNow_135 rfl (lv_at hl 4 rfl) ?_
                refine gf_Mo_constant hC hw hj wd_556 d_Mo_usedNow_136 ?_
                refine lv_iload hx hb d_Mo_usedNow_139 (lv_at hl 0 rfl) ?_
                have o24 := hp.1
                have hp := hp.2
                refine cs_zald hC hw is_69 o24 d_Mo_usedNow_141 ?_
                refine lv_if_eq (tgt := 149) hx hb d_Mo_usedNow_142 (by decide) (fun c25 => ?_) (fun c25 => ?_)
                · have hf := hf.trans (if_pos c25)
                  refine lv_iload hx hb d_Mo_usedNow_149 (lv_at hl 0 rfl) ?_
                  exact cs_iret hC hw hr hlk (congrArg (fun z => (z, M)) hf) d_Mo_usedNow_151
                · have hf := hf.trans (if_neg c25)
                  refine lv_iconst (v := (-1)) hx hb d_Mo_usedNow_145 (by decide) ?_
                  refine lv_goto (tgt := 151) hx hb d_Mo_usedNow_146 (by decide) ?_
                  exact cs_iret hC hw hr hlk (congrArg (fun z => (z, M)) hf) d_Mo_usedNow_151
          · have hp := hp.2 c19
            have hf := hf.trans (if_neg c19)
            refine lv_bipush (v := 100) hx hb d_Mo_usedNow_107 (by decide) ?_
            refine lv_iload hx hb d_Mo_usedNow_109 (lv_at hl 0 rfl) ?_
            refine lv_iadd hx hb d_Mo_usedNow_111 ?_
            exact cs_iret hC hw hr hlk (congrArg (fun z => (z, M)) hf) d_Mo_usedNow_112
        · have hp := hp.1 c18
          have hf := hf.trans (if_pos c18)
          refine lv_aload_n hx hb d_Mo_usedNow_85 rfl (lv_at hl 3 rfl) ?_
          refine gf_Mo_actB hC hw hj wd_561 d_Mo_usedNow_86 ?_
          refine lv_iload hx hb d_Mo_usedNow_89 (lv_at hl 0 rfl) ?_
          have o26 := hp.1
          have hp := hp.2
          refine cs_iald hC hw is_74 o26 d_Mo_usedNow_91 ?_
          refine lv_goto (tgt := 96) hx hb d_Mo_usedNow_92 (by decide) ?_
          refine lv_topi (fun z27 ez27 => ?_)
          have hp := cs_bdP ez27 hp
          have hf := cs_bdE ez27 hf
          refine lv_istore (lv' := [(5, .int z27), (4, .int r13), (3, .int z8), (2, .int z4), (0, .ref (ad j)), (1, .int x1)]) hx hb d_Mo_usedNow_96 hl (by decide) rfl (fun ls hl => ?_)
          refine lv_iload hx hb d_Mo_usedNow_98 (lv_at hl 0 rfl) ?_
          refine lv_aload_n hx hb d_Mo_usedNow_100 rfl (lv_at hl 4 rfl) ?_
          refine gf_Mo_classes hC hw hj wd_549 d_Mo_usedNow_101 ?_
          refine lv_icmp_lt (tgt := 113) hx hb d_Mo_usedNow_104 (by decide) (fun c28 => ?_) (fun c28 => ?_)
          · have hp := hp.1 c28
            have hf := hf.trans (if_pos c28)
            refine lv_aload_n hx hb d_Mo_usedNow_113 rfl (lv_at hl 4 rfl) ?_
            refine gf_Mo_act hC hw hj wd_559 d_Mo_usedNow_114 ?_
            refine lv_iload hx hb d_Mo_usedNow_117 (lv_at hl 1 rfl) ?_
            have o29 := hp.1
            have hp := hp.2
            refine cs_iald hC hw is_72 o29 d_Mo_usedNow_119 ?_
            refine lv_iconst (v := 2) hx hb d_Mo_usedNow_120 (by decide) ?_
            refine lv_icmp_ne (tgt := 149) hx hb d_Mo_usedNow_121 (by decide) (fun c30 => ?_) (fun c30 => ?_)
            · have hp := hp.2 c30
              have hf := hf.trans (if_neg c30)
              refine lv_iload hx hb d_Mo_usedNow_149 (lv_at hl 0 rfl) ?_
              exact cs_iret hC hw hr hlk (congrArg (fun z => (z, M)) hf) d_Mo_usedNow_151
            · have hp := hp.1 c30
              have hf := hf.trans (if_pos c30)
              refine lv_aload_n hx hb d_Mo_usedNow_124 rfl (lv_at hl 4 rfl) ?_
              refine gf_Mo_actA hC hw hj wd_560 d_Mo_usedNow_125 ?_
              refine lv_iload hx hb d_Mo_usedNow_128 (lv_at hl 1 rfl) ?_
              have o31 := hp.1
              have hp := hp.2
              refine cs_iald hC hw is_73 o31 d_Mo_usedNow_130 ?_
              refine lv_iconst (v := 1) hx hb d_Mo_usedNow_131 (by decide) ?_
              refine lv_icmp_ne (tgt := 149) hx hb d_Mo_usedNow_132 (by decide) (fun c32 => ?_) (fun c32 => ?_)
              · have hp := hp.2 c32
                have hf := hf.trans (if_neg c32)
                refine lv_iload hx hb d_Mo_usedNow_149 (lv_at hl 0 rfl) ?_
                exact cs_iret hC hw hr hlk (congrArg (fun z => (z, M)) hf) d_Mo_usedNow_151
              · have hp := hp.1 c32
                have hf := hf.trans (if_pos c32)
                refine lv_aload_n hx hb d_Mo_usedNow_135 rfl (lv_at hl 4 rfl) ?_
                refine gf_Mo_constant hC hw hj wd_556 d_Mo_usedNow_136 ?_
                refine lv_iload hx hb d_Mo_usedNow_139 (lv_at hl 0 rfl) ?_
                have o33 := hp.1
                have hp := hp.2
                refine cs_zald hC hw is_69 o33 d_Mo_usedNow_141 ?_
                refine lv_if_eq (tgt := 149) hx hb d_Mo_usedNow_142 (by decide) (fun c34 => ?_) (fun c34 => ?_)
                · have hf := hf.trans (if_pos c34)
                  refine lv_iload hx hb d_Mo_usedNow_149 (lv_at hl 0 rfl) ?_
                  exact cs_iret hC hw hr hlk (congrArg (fun z => (z, M)) hf) d_Mo_usedNow_151
                · have hf := hf.trans (if_neg c34)
                  refine lv_iconst (v := (-1)) hx hb d_Mo_usedNow_145 (by decide) ?_
                  refine lv_goto (tgt := 151) hx hb d_Mo_usedNow_146 (by decide) ?_
                  exact cs_iret hC hw hr hlk (congrArg (fun z => (z, M)) hf) d_Mo_usedNow_151
          · have hp := hp.2 c28
            have hf := hf.trans (if_neg c28)
            refine lv_bipush (v := 100) hx hb d_Mo_usedNow_107 (by decide) ?_
            refine lv_iload hx hb d_Mo_usedNow_109 (lv_at hl 0 rfl) ?_
            refine lv_iadd hx hb d_Mo_usedNow_111 ?_
            exact cs_iret hC hw hr hlk (congrArg (fun z => (z, M)) hf) d_Mo_usedNow_112
      · have hp := hp.1 c16
        have hf := hf.trans (if_pos c16)
        refine lv_aload_n hx hb d_Mo_usedNow_64 rfl (lv_at hl 3 rfl) ?_
        refine gf_Mo_actA hC hw hj wd_560 d_Mo_usedNow_65 ?_
        refine lv_iload hx hb d_Mo_usedNow_68 (lv_at hl 0 rfl) ?_
        have o35 := hp.1
        have hp := hp.2
        refine cs_iald hC hw is_73 o35 d_Mo_usedNow_70 ?_
        refine lv_goto (tgt := 96) hx hb d_Mo_usedNow_71 (by decide) ?_
        refine lv_topi (fun z36 ez36 => ?_)
        have hp := cs_bdP ez36 hp
        have hf := cs_bdE ez36 hf
        refine lv_istore (lv' := [(5, .int z36), (4, .int r13), (3, .int z8), (2, .int z4), (0, .ref (ad j)), (1, .int x1)]) hx hb d_Mo_usedNow_96 hl (by decide) rfl (fun ls hl => ?_)
        refine lv_iload hx hb d_Mo_usedNow_98 (lv_at hl 0 rfl) ?_
        refine lv_aload_n hx hb d_Mo_usedNow_100 rfl (lv_at hl 4 rfl) ?_
        refine gf_Mo_classes hC hw hj wd_549 d_Mo_usedNow_101 ?_
        refine lv_icmp_lt (tgt := 113) hx hb d_Mo_usedNow_104 (by decide) (fun c37 => ?_) (fun c37 => ?_)
        · have hp := hp.1 c37
          have hf := hf.trans (if_pos c37)
          refine lv_aload_n hx hb d_Mo_usedNow_113 rfl (lv_at hl 4 rfl) ?_
          refine gf_Mo_act hC hw hj wd_559 d_Mo_usedNow_114 ?_
          refine lv_iload hx hb d_Mo_usedNow_117 (lv_at hl 1 rfl) ?_
          have o38 := hp.1
          have hp := hp.2
          refine cs_iald hC hw is_72 o38 d_Mo_usedNow_119 ?_
          refine lv_iconst (v := 2) hx hb d_Mo_usedNow_120 (by decide) ?_
          refine lv_icmp_ne (tgt := 149) hx hb d_Mo_usedNow_121 (by decide) (fun c39 => ?_) (fun c39 => ?_)
          · have hp := hp.2 c39
            have hf := hf.trans (if_neg c39)
            refine lv_iload hx hb d_Mo_usedNow_149 (lv_at hl 0 rfl) ?_
            exact cs_iret hC hw hr hlk (congrArg (fun z => (z, M)) hf) d_Mo_usedNow_151
          · have hp := hp.1 c39
            have hf := hf.trans (if_pos c39)
            refine lv_aload_n hx hb d_Mo_usedNow_124 rfl (lv_at hl 4 rfl) ?_
            refine gf_Mo_actA hC hw hj wd_560 d_Mo_usedNow_125 ?_
            refine lv_iload hx hb d_Mo_usedNow_128 (lv_at hl 1 rfl) ?_
            have o40 := hp.1
            have hp := hp.2
            refine cs_iald hC hw is_73 o40 d_Mo_usedNow_130 ?_
            refine lv_iconst (v := 1) hx hb d_Mo_usedNow_131 (by decide) ?_
            refine lv_icmp_ne (tgt := 149) hx hb d_Mo_usedNow_132 (by decide) (fun c41 => ?_) (fun c41 => ?_)
            · have hp := hp.2 c41
              have hf := hf.trans (if_neg c41)
              refine lv_iload hx hb d_Mo_usedNow_149 (lv_at hl 0 rfl) ?_
              exact cs_iret hC hw hr hlk (congrArg (fun z => (z, M)) hf) d_Mo_usedNow_151
            · have hp := hp.1 c41
              have hf := hf.trans (if_pos c41)
              refine lv_aload_n hx hb d_Mo_usedNow_135 rfl (lv_at hl 4 rfl) ?_
              refine gf_Mo_constant hC hw hj wd_556 d_Mo_usedNow_136 ?_
              refine lv_iload hx hb d_Mo_usedNow_139 (lv_at hl 0 rfl) ?_
              have o42 := hp.1
              have hp := hp.2
              refine cs_zald hC hw is_69 o42 d_Mo_usedNow_141 ?_
              refine lv_if_eq (tgt := 149) hx hb d_Mo_usedNow_142 (by decide) (fun c43 => ?_) (fun c43 => ?_)
              · have hf := hf.trans (if_pos c43)
                refine lv_iload hx hb d_Mo_usedNow_149 (lv_at hl 0 rfl) ?_
                exact cs_iret hC hw hr hlk (congrArg (fun z => (z, M)) hf) d_Mo_usedNow_151
              · have hf := hf.trans (if_neg c43)
                refine lv_iconst (v := (-1)) hx hb d_Mo_usedNow_145 (by decide) ?_
                refine lv_goto (tgt := 151) hx hb d_Mo_usedNow_146 (by decide) ?_
                exact cs_iret hC hw hr hlk (congrArg (fun z => (z, M)) hf) d_Mo_usedNow_151
        · have hp := hp.2 c37
          have hf := hf.trans (if_neg c37)
          refine lv_bipush (v := 100) hx hb d_Mo_usedNow_107 (by decide) ?_
          refine lv_iload hx hb d_Mo_usedNow_109 (lv_at hl 0 rfl) ?_
          refine lv_iadd hx hb d_Mo_usedNow_111 ?_
          exact cs_iret hC hw hr hlk (congrArg (fun z => (z, M)) hf) d_Mo_usedNow_112
    · have hp := hp.2 c14
      have hf := hf.trans (if_neg c14)
      refine lv_aload_n hx hb d_Mo_usedNow_47 rfl (lv_at hl 3 rfl) ?_
      refine lv_iload_n hx hb d_Mo_usedNow_48 rfl (lv_at hl 2 rfl) ?_
      refine lv_iload_n hx hb d_Mo_usedNow_49 rfl (lv_at hl 1 rfl) ?_
      have o44 := hp.1
      have hp := hp.2
      refine cs_ret_p hC hw (cs_runV (As := [.int z4, .int z8]) (rest := []) hC hw hj.2 (ci := 5) rfl rfl (cs_sg_is hj) (c_Mo_useAt l D cA ad M j hj z4 z8 o44 _) rfl rfl cw_Mo_123 ⟨Nat.le_of_ble_eq_true rfl, Nat.le_of_ble_eq_true rfl⟩ hl.1 rfl rfl (Nat.le_of_ble_eq_true rfl) d_Mo_usedNow_50 ⟨Nat.zero_le _, Nat.zero_le _⟩) (fun r45 H locs er45 hw => ?_)
      have hf := cs_bdE er45 hf
      exact cs_iret hC hw hr hlk (congrArg (fun z => (z, M)) hf) d_Mo_usedNow_53
  · have hp := hp.2 c11
    have hf := hf.trans (if_neg c11)
    refine lv_iconst (v := (-1)) hx hb d_Mo_usedNow_32 (by decide) ?_
    exact cs_iret hC hw hr hlk (congrArg (fun z => (z, M)) hf) d_Mo_usedNow_33
theorem d_Mo_waits_0 : decode prog_8_method_15_code 0 = .ok (.aload_n 0, 1) := by decide +kernel
theorem d_Mo_waits_1 : decode prog_8_method_15_code 1 = .ok (.getfield 74, 3) := by decide +kernel
theorem d_Mo_waits_4 : decode prog_8_method_15_code 4 = .ok (.iload_n 1, 1) := by decide +kernel
theorem d_Mo_waits_5 : decode prog_8_method_15_code 5 = .ok (.iaload, 1) := by decide +kernel
theorem d_Mo_waits_6 : decode prog_8_method_15_code 6 = .ok (.ifCond .ge 12, 3) := by decide +kernel
theorem d_Mo_waits_9 : decode prog_8_method_15_code 9 = .ok (.aload_n 0, 1) := by decide +kernel
theorem d_Mo_waits_10 : decode prog_8_method_15_code 10 = .ok (.getfield 71, 3) := by decide +kernel
theorem d_Mo_waits_13 : decode prog_8_method_15_code 13 = .ok (.iload_n 1, 1) := by decide +kernel
theorem d_Mo_waits_14 : decode prog_8_method_15_code 14 = .ok (.iaload, 1) := by decide +kernel
theorem d_Mo_waits_15 : decode prog_8_method_15_code 15 = .ok (.ifCond .lt 5, 3) := by decide +kernel
theorem d_Mo_waits_18 : decode prog_8_method_15_code 18 = .ok (.iconst 0, 1) := by decide +kernel
theorem d_Mo_waits_19 : decode prog_8_method_15_code 19 = .ok (.ireturn, 1) := by decide +kernel
theorem d_Mo_waits_20 : decode prog_8_method_15_code 20 = .ok (.aload_n 0, 1) := by decide +kernel
theorem d_Mo_waits_21 : decode prog_8_method_15_code 21 = .ok (.iload_n 1, 1) := by decide +kernel
theorem d_Mo_waits_22 : decode prog_8_method_15_code 22 = .ok (.invokevirtual 126, 3) := by decide +kernel
theorem d_Mo_waits_25 : decode prog_8_method_15_code 25 = .ok (.istore_n 2, 1) := by decide +kernel
theorem d_Mo_waits_26 : decode prog_8_method_15_code 26 = .ok (.iload_n 2, 1) := by decide +kernel
theorem d_Mo_waits_27 : decode prog_8_method_15_code 27 = .ok (.ifCond .lt 35, 3) := by decide +kernel
theorem d_Mo_waits_30 : decode prog_8_method_15_code 30 = .ok (.iload_n 2, 1) := by decide +kernel
theorem d_Mo_waits_31 : decode prog_8_method_15_code 31 = .ok (.bipush 100, 2) := by decide +kernel
theorem d_Mo_waits_33 : decode prog_8_method_15_code 33 = .ok (.if_icmp .ge 29, 3) := by decide +kernel
theorem d_Mo_waits_36 : decode prog_8_method_15_code 36 = .ok (.aload_n 0, 1) := by decide +kernel
theorem d_Mo_waits_37 : decode prog_8_method_15_code 37 = .ok (.getfield 56, 3) := by decide +kernel
theorem d_Mo_waits_40 : decode prog_8_method_15_code 40 = .ok (.iload_n 2, 1) := by decide +kernel
theorem d_Mo_waits_41 : decode prog_8_method_15_code 41 = .ok (.iaload, 1) := by decide +kernel
theorem d_Mo_waits_42 : decode prog_8_method_15_code 42 = .ok (.iconst 4, 1) := by decide +kernel
theorem d_Mo_waits_43 : decode prog_8_method_15_code 43 = .ok (.if_icmp .lt 19, 3) := by decide +kernel
theorem d_Mo_waits_46 : decode prog_8_method_15_code 46 = .ok (.aload_n 0, 1) := by decide +kernel
theorem d_Mo_waits_47 : decode prog_8_method_15_code 47 = .ok (.getfield 56, 3) := by decide +kernel
theorem d_Mo_waits_50 : decode prog_8_method_15_code 50 = .ok (.iload_n 2, 1) := by decide +kernel
theorem d_Mo_waits_51 : decode prog_8_method_15_code 51 = .ok (.iaload, 1) := by decide +kernel
theorem d_Mo_waits_52 : decode prog_8_method_15_code 52 = .ok (.iconst 4, 1) := by decide +kernel
theorem d_Mo_waits_53 : decode prog_8_method_15_code 53 = .ok (.iload_n 1, 1) := by decide +kernel
theorem d_Mo_waits_54 : decode prog_8_method_15_code 54 = .ok (.iadd, 1) := by decide +kernel
theorem d_Mo_waits_55 : decode prog_8_method_15_code 55 = .ok (.if_icmp .eq 7, 3) := by decide +kernel
theorem d_Mo_waits_58 : decode prog_8_method_15_code 58 = .ok (.iconst 1, 1) := by decide +kernel
theorem d_Mo_waits_59 : decode prog_8_method_15_code 59 = .ok (.goto 4, 3) := by decide +kernel
theorem d_Mo_waits_62 : decode prog_8_method_15_code 62 = .ok (.iconst 0, 1) := by decide +kernel
theorem d_Mo_waits_63 : decode prog_8_method_15_code 63 = .ok (.ireturn, 1) := by decide +kernel
def f_Mo_waits_J18 (M : cs_Mem)  : Int32 :=
  0
def f_Mo_waits (M : cs_Mem) (j : Nat) (x1 : Int32) : Int32 :=
  if 0 ≤ (M 84 x1.toNatClampNeg) then
    f_Mo_waits_J18 M 
  else
    if (M 83 x1.toNatClampNeg) < 0 then
      cs_bd (f_Mo_usedNow M j x1) fun (r6 : Int32) =>
      if r6 < 0 then
        0
      else
        if 100 ≤ r6 then
          0
        else
          if (M 78 r6.toNatClampNeg) < 4 then
            0
          else
            if (M 78 r6.toNatClampNeg) = (4 + x1) then
              0
            else
              1
    else
      f_Mo_waits_J18 M 
def pre_Mo_waits (M : cs_Mem) (j : Nat) (x1 : Int32) : Prop :=
  (vp_in x1 (cs_ln M 84)) ∧
  (0 ≤ (M 84 x1.toNatClampNeg) →
    True
  ) ∧ (¬ (0 ≤ (M 84 x1.toNatClampNeg)) →
    (vp_in x1 (cs_ln M 83)) ∧
    ((M 83 x1.toNatClampNeg) < 0 →
      (pre_Mo_usedNow M j x1) ∧
      cs_bd (f_Mo_usedNow M j x1) fun (r6 : Int32) =>
      (r6 < 0 →
        True
      ) ∧ (¬ (r6 < 0) →
        (100 ≤ r6 →
          True
        ) ∧ (¬ (100 ≤ r6) →
          (vp_in r6 (cs_ln M 78)) ∧
          ((M 78 r6.toNatClampNeg) < 4 →
            True
          ) ∧ (¬ ((M 78 r6.toNatClampNeg) < 4) →
            (vp_in r6 (cs_ln M 78)) ∧
            True
          )
        )
      )
    ) ∧ (¬ ((M 83 x1.toNatClampNeg) < 0) →
      True
    )
  )
set_option maxHeartbeats 4000000 in
set_option maxRecDepth 100000 in
theorem w_Mo_waits_J18 {p : Program} {l : Launch} {e : Env} {s : State} {m : MethodId} {args : Array Value} {below : List Frame} {meth : Method} {c : Code} {D : va_G} {cA : Nat → ClassId} {A : Nat → Prop} {ad : Nat → Nat} {F : Int32} (hC : cs_Ctx p s m args c prog_8_method_15_code 3 "ClassStarterModel" D cA A) (hr : meth.sig.returnType = (some .boolean)) (hlk : meth.locks = false) : ∀ (M : cs_Mem) (H : Heap) (locs : List Loc) (ls : Array Slot), cs_Wd D cA ad M A s H locs → lv_has ls 3 [] → F = f_Mo_waits_J18 M  → W p l e ({ frames := 4, cells := 0, slots := 0, locals := 94 }) s m args below meth c H locs 0 0 (MQ below (cs_Qi D cA ad (F, M) A) args s 0 0 A) (F0 m 18 ls []) := by
  have hx := hC.1
  have hb := hC.2.1
  intro M  H locs ls hw hl  hf
  unfold f_Mo_waits_J18 at hf
  refine lv_iconst (v := 0) hx hb d_Mo_waits_18 (by decide) ?_
  exact cs_zret hC hw hr hlk (Or.inl rfl) (congrArg (fun z => (z, M)) hf) d_Mo_waits_19
set_option maxHeartbeats 4000000 in
set_option maxRecDepth 100000 in
theorem c_Mo_waits (l : Launch) (D : va_G) (cA : Nat → ClassId) (ad : Nat → Nat) (M : cs_Mem) (j : Nat) (hj : cs_is 5 j) (x1 : Int32) (hp : pre_Mo_waits M j x1) : cs_Ci l ⟨"ClassStarterModel", "waits", "(I)Z"⟩ prog_8_method_15_code 3 (some .boolean) ({ frames := 4, cells := 0, slots := 0, locals := 94 }) D cA ad M [.ref (ad j), .int x1] ((f_Mo_waits M j x1, M)) := by
  refine cs_entry (by decide) (Nat.le_of_ble_eq_true rfl) (fun p e s m below meth c A ls hC hr hlk _ hw hl => ?_)
  have hx := hC.1
  have hb := hC.2.1
  have hl : lv_has ls 3 [(0, .ref (ad j)), (1, .int x1)] := hl
  generalize hF : f_Mo_waits M j x1 = F
  have hf := hF.symm
  unfold f_Mo_waits at hf
  unfold pre_Mo_waits at hp
  refine lv_aload_n hx hb d_Mo_waits_0 rfl (lv_at hl 0 rfl) ?_
  refine gf_Mo_ended hC hw hj wd_573 d_Mo_waits_1 ?_
  refine lv_iload_n hx hb d_Mo_waits_4 rfl (lv_at hl 1 rfl) ?_
  have o1 := hp.1
  have hp := hp.2
  refine cs_iald hC hw is_84 o1 d_Mo_waits_5 ?_
  refine lv_if_ge (tgt := 18) hx hb d_Mo_waits_6 (by decide) (fun c2 => ?_) (fun c2 => ?_)
  · have hp := hp.1 c2
    have hf := hf.trans (if_pos c2)
    exact w_Mo_waits_J18 hC hr hlk M  _ _ ls hw (lv_sub hl [] rfl) hf
  · have hp := hp.2 c2
    have hf := hf.trans (if_neg c2)
    refine lv_aload_n hx hb d_Mo_waits_9 rfl (lv_at hl 0 rfl) ?_
    refine gf_Mo_pending hC hw hj wd_572 d_Mo_waits_10 ?_
    refine lv_iload_n hx hb d_Mo_waits_13 rfl (lv_at hl 1 rfl) ?_
    have o3 := hp.1
    have hp := hp.2
    refine cs_iald hC hw is_83 o3 d_Mo_waits_14 ?_
    refine lv_if_lt (tgt := 20) hx hb d_Mo_waits_15 (by decide) (fun c4 => ?_) (fun c4 => ?_)
    · have hp := hp.1 c4
      have hf := hf.trans (if_pos c4)
      refine lv_aload_n hx hb d_Mo_waits_20 rfl (lv_at hl 0 rfl) ?_
      refine lv_iload_n hx hb d_Mo_waits_21 rfl (lv_at hl 1 rfl) ?_
      have o5 := hp.1
      have hp := hp.2
      refine cs_ret_p hC hw (cs_runV (As := [.int x1]) (rest := []) hC hw hj.2 (ci := 5) rfl rfl (cs_sg_is hj) (c_Mo_usedNow l D cA ad M j hj x1 o5 _) rfl rfl cw_Mo_126 ⟨Nat.le_of_ble_eq_true rfl, Nat.le_of_ble_eq_true rfl⟩ hl.1 rfl rfl (Nat.le_of_ble_eq_true rfl) d_Mo_waits_22 ⟨Nat.zero_le _, Nat.zero_le _⟩) (fun r6 H locs er6 hw => ?_)
      have hp := cs_bdP er6 hp
      have hf := cs_bdE er6 hf
      refine lv_istore_n (lv' := [(2, .int r6), (0, .ref (ad j)), (1, .int x1)]) hx hb d_Mo_waits_25 rfl hl (by decide) rfl (fun ls hl => ?_)
      refine lv_iload_n hx hb d_Mo_waits_26 rfl (lv_at hl 0 rfl) ?_
      refine lv_if_lt (tgt := 62) hx hb d_Mo_waits_27 (by decide) (fun c7 => ?_) (fun c7 => ?_)
      · have hp := hp.1 c7
        have hf := hf.trans (if_pos c7)
        refine lv_iconst (v := 0) hx hb d_Mo_waits_62 (by decide) ?_
        exact cs_zret hC hw hr hlk (Or.inl rfl) (congrArg (fun z => (z, M)) hf) d_Mo_waits_63
      · have hp := hp.2 c7
        have hf := hf.trans (if_neg c7)
        refine lv_iload_n hx hb d_Mo_waits_30 rfl (lv_at hl 0 rfl) ?_
        refine lv_bipush (v := 100) hx hb d_Mo_waits_31 (by decide) ?_
        refine lv_icmp_ge (tgt := 62) hx hb d_Mo_waits_33 (by decide) (fun c8 => ?_) (fun c8 => ?_)
        · have hp := hp.1 c8
          have hf := hf.trans (if_pos c8)
          refine lv_iconst (v := 0) hx hb d_Mo_waits_62 (by decide) ?_
          exact cs_zret hC hw hr hlk (Or.inl rfl) (congrArg (fun z => (z, M)) hf) d_Mo_waits_63
        · have hp := hp.2 c8
          have hf := hf.trans (if_neg c8)
          refine lv_aload_n hx hb d_Mo_waits_36 rfl (lv_at hl 1 rfl) ?_
          refine gf_Mo_state hC hw hj wd_567 d_Mo_waits_37 ?_
          refine lv_iload_n hx hb d_Mo_waits_40 rfl (lv_at hl 0 rfl) ?_
          have o9 := hp.1
          have hp := hp.2
          refine cs_iald hC hw is_78 o9 d_Mo_waits_41 ?_
          refine lv_iconst (v := 4) hx hb d_Mo_waits_42 (by decide) ?_
          refine lv_icmp_lt (tgt := 62) hx hb d_Mo_waits_43 (by decide) (fun c10 => ?_) (fun c10 => ?_)
          · have hp := hp.1 c10
            have hf := hf.trans (if_pos c10)
            refine lv_iconst (v := 0) hx hb d_Mo_waits_62 (by decide) ?_
            exact cs_zret hC hw hr hlk (Or.inl rfl) (congrArg (fun z => (z, M)) hf) d_Mo_waits_63
          · have hp := hp.2 c10
            have hf := hf.trans (if_neg c10)
            refine lv_aload_n hx hb d_Mo_waits_46 rfl (lv_at hl 1 rfl) ?_
            refine gf_Mo_state hC hw hj wd_567 d_Mo_waits_47 ?_
            refine lv_iload_n hx hb d_Mo_waits_50 rfl (lv_at hl 0 rfl) ?_
            have o11 := hp.1
            have hp := hp.2
            refine cs_iald hC hw is_78 o11 d_Mo_waits_51 ?_
            refine lv_iconst (v := 4) hx hb d_Mo_waits_52 (by decide) ?_
            refine lv_iload_n hx hb d_Mo_waits_53 rfl (lv_at hl 2 rfl) ?_
            refine lv_iadd hx hb d_Mo_waits_54 ?_
            refine lv_icmp_eq (tgt := 62) hx hb d_Mo_waits_55 (by decide) (fun c12 => ?_) (fun c12 => ?_)
            · have hf := hf.trans (if_pos c12)
              refine lv_iconst (v := 0) hx hb d_Mo_waits_62 (by decide) ?_
              exact cs_zret hC hw hr hlk (Or.inl rfl) (congrArg (fun z => (z, M)) hf) d_Mo_waits_63
            · have hf := hf.trans (if_neg c12)
              refine lv_iconst (v := 1) hx hb d_Mo_waits_58 (by decide) ?_
              refine lv_goto (tgt := 63) hx hb d_Mo_waits_59 (by decide) ?_
              exact cs_zret hC hw hr hlk (Or.inr rfl) (congrArg (fun z => (z, M)) hf) d_Mo_waits_63
    · have hp := hp.2 c4
      have hf := hf.trans (if_neg c4)
      exact w_Mo_waits_J18 hC hr hlk M  _ _ ls hw (lv_sub hl [] rfl) hf
theorem d_Mo_canStep_0 : decode prog_8_method_16_code 0 = .ok (.aload_n 0, 1) := by decide +kernel
theorem d_Mo_canStep_1 : decode prog_8_method_16_code 1 = .ok (.getfield 74, 3) := by decide +kernel
theorem d_Mo_canStep_4 : decode prog_8_method_16_code 4 = .ok (.iload_n 1, 1) := by decide +kernel
theorem d_Mo_canStep_5 : decode prog_8_method_16_code 5 = .ok (.iaload, 1) := by decide +kernel
theorem d_Mo_canStep_6 : decode prog_8_method_16_code 6 = .ok (.ifCond .ge 15, 3) := by decide +kernel
theorem d_Mo_canStep_9 : decode prog_8_method_16_code 9 = .ok (.aload_n 0, 1) := by decide +kernel
theorem d_Mo_canStep_10 : decode prog_8_method_16_code 10 = .ok (.iload_n 1, 1) := by decide +kernel
theorem d_Mo_canStep_11 : decode prog_8_method_16_code 11 = .ok (.invokevirtual 129, 3) := by decide +kernel
theorem d_Mo_canStep_14 : decode prog_8_method_16_code 14 = .ok (.ifCond .ne 7, 3) := by decide +kernel
theorem d_Mo_canStep_17 : decode prog_8_method_16_code 17 = .ok (.iconst 1, 1) := by decide +kernel
theorem d_Mo_canStep_18 : decode prog_8_method_16_code 18 = .ok (.goto 4, 3) := by decide +kernel
theorem d_Mo_canStep_21 : decode prog_8_method_16_code 21 = .ok (.iconst 0, 1) := by decide +kernel
theorem d_Mo_canStep_22 : decode prog_8_method_16_code 22 = .ok (.ireturn, 1) := by decide +kernel
def f_Mo_canStep (M : cs_Mem) (j : Nat) (x1 : Int32) : Int32 :=
  if 0 ≤ (M 84 x1.toNatClampNeg) then
    0
  else
    cs_bd (f_Mo_waits M j x1) fun (r4 : Int32) =>
    if r4 = 0 then
      1
    else
      0
def pre_Mo_canStep (M : cs_Mem) (j : Nat) (x1 : Int32) : Prop :=
  (vp_in x1 (cs_ln M 84)) ∧
  (0 ≤ (M 84 x1.toNatClampNeg) →
    True
  ) ∧ (¬ (0 ≤ (M 84 x1.toNatClampNeg)) →
    (pre_Mo_waits M j x1) ∧
    True
  )
set_option maxHeartbeats 4000000 in
set_option maxRecDepth 100000 in
theorem c_Mo_canStep (l : Launch) (D : va_G) (cA : Nat → ClassId) (ad : Nat → Nat) (M : cs_Mem) (j : Nat) (hj : cs_is 5 j) (x1 : Int32) (hp : pre_Mo_canStep M j x1) : cs_Ci l ⟨"ClassStarterModel", "canStep", "(I)Z"⟩ prog_8_method_16_code 2 (some .boolean) ({ frames := 5, cells := 0, slots := 0, locals := 116 }) D cA ad M [.ref (ad j), .int x1] ((f_Mo_canStep M j x1, M)) := by
  refine cs_entry (by decide) (Nat.le_of_ble_eq_true rfl) (fun p e s m below meth c A ls hC hr hlk _ hw hl => ?_)
  have hx := hC.1
  have hb := hC.2.1
  have hl : lv_has ls 2 [(0, .ref (ad j)), (1, .int x1)] := hl
  generalize hF : f_Mo_canStep M j x1 = F
  have hf := hF.symm
  unfold f_Mo_canStep at hf
  unfold pre_Mo_canStep at hp
  refine lv_aload_n hx hb d_Mo_canStep_0 rfl (lv_at hl 0 rfl) ?_
  refine gf_Mo_ended hC hw hj wd_573 d_Mo_canStep_1 ?_
  refine lv_iload_n hx hb d_Mo_canStep_4 rfl (lv_at hl 1 rfl) ?_
  have o1 := hp.1
  have hp := hp.2
  refine cs_iald hC hw is_84 o1 d_Mo_canStep_5 ?_
  refine lv_if_ge (tgt := 21) hx hb d_Mo_canStep_6 (by decide) (fun c2 => ?_) (fun c2 => ?_)
  · have hp := hp.1 c2
    have hf := hf.trans (if_pos c2)
    refine lv_iconst (v := 0) hx hb d_Mo_canStep_21 (by decide) ?_
    exact cs_zret hC hw hr hlk (Or.inl rfl) (congrArg (fun z => (z, M)) hf) d_Mo_canStep_22
  · have hp := hp.2 c2
    have hf := hf.trans (if_neg c2)
    refine lv_aload_n hx hb d_Mo_canStep_9 rfl (lv_at hl 0 rfl) ?_
    refine lv_iload_n hx hb d_Mo_canStep_10 rfl (lv_at hl 1 rfl) ?_
    have o3 := hp.1
    have hp := hp.2
    refine cs_ret_p hC hw (cs_runV (As := [.int x1]) (rest := []) hC hw hj.2 (ci := 5) rfl rfl (cs_sg_is hj) (c_Mo_waits l D cA ad M j hj x1 o3 _) rfl rfl cw_Mo_129 ⟨Nat.le_of_ble_eq_true rfl, Nat.le_of_ble_eq_true rfl⟩ hl.1 rfl rfl (Nat.le_of_ble_eq_true rfl) d_Mo_canStep_11 ⟨Nat.zero_le _, Nat.zero_le _⟩) (fun r4 H locs er4 hw => ?_)
    have hf := cs_bdE er4 hf
    refine lv_if_ne (tgt := 21) hx hb d_Mo_canStep_14 (by decide) (fun c5 => ?_) (fun c5 => ?_)
    · have hf := hf.trans (if_neg c5)
      refine lv_iconst (v := 0) hx hb d_Mo_canStep_21 (by decide) ?_
      exact cs_zret hC hw hr hlk (Or.inl rfl) (congrArg (fun z => (z, M)) hf) d_Mo_canStep_22
    · have hf := hf.trans (if_pos c5)
      refine lv_iconst (v := 1) hx hb d_Mo_canStep_17 (by decide) ?_
      refine lv_goto (tgt := 22) hx hb d_Mo_canStep_18 (by decide) ?_
      exact cs_zret hC hw hr hlk (Or.inr rfl) (congrArg (fun z => (z, M)) hf) d_Mo_canStep_22
theorem d_Mo_note_0 : decode prog_8_method_17_code 0 = .ok (.aload_n 0, 1) := by decide +kernel
theorem d_Mo_note_1 : decode prog_8_method_17_code 1 = .ok (.getfield 77, 3) := by decide +kernel
theorem d_Mo_note_4 : decode prog_8_method_17_code 4 = .ok (.aload_n 0, 1) := by decide +kernel
theorem d_Mo_note_5 : decode prog_8_method_17_code 5 = .ok (.getfield 102, 3) := by decide +kernel
theorem d_Mo_note_8 : decode prog_8_method_17_code 8 = .ok (.iload_n 1, 1) := by decide +kernel
theorem d_Mo_note_9 : decode prog_8_method_17_code 9 = .ok (.iastore, 1) := by decide +kernel
theorem d_Mo_note_10 : decode prog_8_method_17_code 10 = .ok (.aload_n 0, 1) := by decide +kernel
theorem d_Mo_note_11 : decode prog_8_method_17_code 11 = .ok (.dup, 1) := by decide +kernel
theorem d_Mo_note_12 : decode prog_8_method_17_code 12 = .ok (.getfield 102, 3) := by decide +kernel
theorem d_Mo_note_15 : decode prog_8_method_17_code 15 = .ok (.iconst 1, 1) := by decide +kernel
theorem d_Mo_note_16 : decode prog_8_method_17_code 16 = .ok (.iadd, 1) := by decide +kernel
theorem d_Mo_note_17 : decode prog_8_method_17_code 17 = .ok (.putfield 102, 3) := by decide +kernel
theorem d_Mo_note_20 : decode prog_8_method_17_code 20 = .ok (.return_, 1) := by decide +kernel
def f_Mo_note (M : cs_Mem) (j : Nat) (x1 : Int32) : cs_Mem :=
  cs_bd (cs_up M 85 (upd (M 85) (M j 26).toNatClampNeg x1)) fun (N2 : cs_Mem) =>
  cs_bd (cs_up N2 j (upd (N2 j) 26 ((N2 j 26) + 1))) fun (N3 : cs_Mem) =>
  N3
def pre_Mo_note (M : cs_Mem) (j : Nat) (x1 : Int32) : Prop :=
  (vp_in (M j 26) (cs_ln M 85)) ∧
  True
set_option maxHeartbeats 4000000 in
set_option maxRecDepth 100000 in
theorem c_Mo_note (l : Launch) (D : va_G) (cA : Nat → ClassId) (ad : Nat → Nat) (M : cs_Mem) (j : Nat) (hj : cs_is 5 j) (x1 : Int32) (hp : pre_Mo_note M j x1) : cs_Cv l ⟨"ClassStarterModel", "note", "(I)V"⟩ prog_8_method_17_code 2 none ({ frames := 0, cells := 0, slots := 0, locals := 0 }) D cA ad M [.ref (ad j), .int x1] (f_Mo_note M j x1) := by
  refine cs_entry (by decide) (Nat.le_of_ble_eq_true rfl) (fun p e s m below meth c A ls hC hr hlk _ hw hl => ?_)
  have hx := hC.1
  have hb := hC.2.1
  have hl : lv_has ls 2 [(0, .ref (ad j)), (1, .int x1)] := hl
  generalize hF : f_Mo_note M j x1 = F
  have hf := hF.symm
  unfold f_Mo_note at hf
  unfold pre_Mo_note at hp
  refine lv_aload_n hx hb d_Mo_note_0 rfl (lv_at hl 0 rfl) ?_
  refine gf_Mo_log hC hw hj wd_574 d_Mo_note_1 ?_
  refine lv_aload_n hx hb d_Mo_note_4 rfl (lv_at hl 0 rfl) ?_
  refine gf_Mo_logs hC hw hj wd_575 d_Mo_note_5 ?_
  refine lv_iload_n hx hb d_Mo_note_8 rfl (lv_at hl 1 rfl) ?_
  have o1 := hp.1
  have hp := hp.2
  refine cs_iast hC hw is_85 o1 d_Mo_note_9 (fun N2 H locs eN2 hw => ?_)
  have hf := cs_bdE eN2 hf
  refine lv_aload_n hx hb d_Mo_note_10 rfl (lv_at hl 0 rfl) ?_
  refine lv_dup hx hb d_Mo_note_11 rfl ?_
  refine gf_Mo_logs hC hw hj wd_575 d_Mo_note_12 ?_
  refine lv_iconst (v := 1) hx hb d_Mo_note_15 (by decide) ?_
  refine lv_iadd hx hb d_Mo_note_16 ?_
  refine pf_Mo_logs hC hw hj wd_575 d_Mo_note_17 (fun N3 H locs eN3 hw => ?_)
  have hf := cs_bdE eN3 hf
  exact cs_vret hC hw hr hlk hf d_Mo_note_20
theorem d_Mo_resultOf_0 : decode prog_8_method_19_code 0 = .ok (.iload_n 0, 1) := by decide +kernel
theorem d_Mo_resultOf_1 : decode prog_8_method_19_code 1 = .ok (.bipush 30, 2) := by decide +kernel
theorem d_Mo_resultOf_3 : decode prog_8_method_19_code 3 = .ok (.if_icmp .lt 7, 3) := by decide +kernel
theorem d_Mo_resultOf_6 : decode prog_8_method_19_code 6 = .ok (.iconst 1, 1) := by decide +kernel
theorem d_Mo_resultOf_7 : decode prog_8_method_19_code 7 = .ok (.iload_n 0, 1) := by decide +kernel
theorem d_Mo_resultOf_8 : decode prog_8_method_19_code 8 = .ok (.iadd, 1) := by decide +kernel
theorem d_Mo_resultOf_9 : decode prog_8_method_19_code 9 = .ok (.ireturn, 1) := by decide +kernel
theorem d_Mo_resultOf_10 : decode prog_8_method_19_code 10 = .ok (.iload_n 0, 1) := by decide +kernel
theorem d_Mo_resultOf_11 : decode prog_8_method_19_code 11 = .ok (.bipush 20, 2) := by decide +kernel
theorem d_Mo_resultOf_13 : decode prog_8_method_19_code 13 = .ok (.if_icmp .lt 9, 3) := by decide +kernel
theorem d_Mo_resultOf_16 : decode prog_8_method_19_code 16 = .ok (.iconst 1, 1) := by decide +kernel
theorem d_Mo_resultOf_17 : decode prog_8_method_19_code 17 = .ok (.iload_n 0, 1) := by decide +kernel
theorem d_Mo_resultOf_18 : decode prog_8_method_19_code 18 = .ok (.iadd, 1) := by decide +kernel
theorem d_Mo_resultOf_19 : decode prog_8_method_19_code 19 = .ok (.goto 6, 3) := by decide +kernel
theorem d_Mo_resultOf_22 : decode prog_8_method_19_code 22 = .ok (.iconst 1, 1) := by decide +kernel
theorem d_Mo_resultOf_23 : decode prog_8_method_19_code 23 = .ok (.iload_n 0, 1) := by decide +kernel
theorem d_Mo_resultOf_24 : decode prog_8_method_19_code 24 = .ok (.iadd, 1) := by decide +kernel
theorem d_Mo_resultOf_25 : decode prog_8_method_19_code 25 = .ok (.ireturn, 1) := by decide +kernel
def f_Mo_resultOf (M : cs_Mem) (x0 : Int32) : Int32 :=
  if x0 < 30 then
    if x0 < 20 then
      1 + x0
    else
      1 + x0
  else
    1 + x0
set_option maxHeartbeats 4000000 in
set_option maxRecDepth 100000 in
theorem c_Mo_resultOf (l : Launch) (D : va_G) (cA : Nat → ClassId) (ad : Nat → Nat) (M : cs_Mem) (x0 : Int32) : cs_Ci l ⟨"ClassStarterModel", "resultOf", "(I)I"⟩ prog_8_method_19_code 1 (some .int) ({ frames := 0, cells := 0, slots := 0, locals := 0 }) D cA ad M [.int x0] ((f_Mo_resultOf M x0, M)) := by
  refine cs_entry (by decide) (Nat.le_of_ble_eq_true rfl) (fun p e s m below meth c A ls hC hr hlk _ hw hl => ?_)
  have hx := hC.1
  have hb := hC.2.1
  have hl : lv_has ls 1 [(0, .int x0)] := hl
  generalize hF : f_Mo_resultOf M x0 = F
  have hf := hF.symm
  unfold f_Mo_resultOf at hf
  refine lv_iload_n hx hb d_Mo_resultOf_0 rfl (lv_at hl 0 rfl) ?_
  refine lv_bipush (v := 30) hx hb d_Mo_resultOf_1 (by decide) ?_
  refine lv_icmp_lt (tgt := 10) hx hb d_Mo_resultOf_3 (by decide) (fun c1 => ?_) (fun c1 => ?_)
  · have hf := hf.trans (if_pos c1)
    refine lv_iload_n hx hb d_Mo_resultOf_10 rfl (lv_at hl 0 rfl) ?_
    refine lv_bipush (v := 20) hx hb d_Mo_resultOf_11 (by decide) ?_
    refine lv_icmp_lt (tgt := 22) hx hb d_Mo_resultOf_13 (by decide) (fun c2 => ?_) (fun c2 => ?_)
    · have hf := hf.trans (if_pos c2)
      refine lv_iconst (v := 1) hx hb d_Mo_resultOf_22 (by decide) ?_
      refine lv_iload_n hx hb d_Mo_resultOf_23 rfl (lv_at hl 0 rfl) ?_
      refine lv_iadd hx hb d_Mo_resultOf_24 ?_
      exact cs_iret hC hw hr hlk (congrArg (fun z => (z, M)) hf) d_Mo_resultOf_25
    · have hf := hf.trans (if_neg c2)
      refine lv_iconst (v := 1) hx hb d_Mo_resultOf_16 (by decide) ?_
      refine lv_iload_n hx hb d_Mo_resultOf_17 rfl (lv_at hl 0 rfl) ?_
      refine lv_iadd hx hb d_Mo_resultOf_18 ?_
      refine lv_goto (tgt := 25) hx hb d_Mo_resultOf_19 (by decide) ?_
      exact cs_iret hC hw hr hlk (congrArg (fun z => (z, M)) hf) d_Mo_resultOf_25
  · have hf := hf.trans (if_neg c1)
    refine lv_iconst (v := 1) hx hb d_Mo_resultOf_6 (by decide) ?_
    refine lv_iload_n hx hb d_Mo_resultOf_7 rfl (lv_at hl 0 rfl) ?_
    refine lv_iadd hx hb d_Mo_resultOf_8 ?_
    exact cs_iret hC hw hr hlk (congrArg (fun z => (z, M)) hf) d_Mo_resultOf_9
theorem d_Mo_loggedAs_0 : decode prog_8_method_20_code 0 = .ok (.iload_n 0, 1) := by decide +kernel
theorem d_Mo_loggedAs_1 : decode prog_8_method_20_code 1 = .ok (.bipush 30, 2) := by decide +kernel
theorem d_Mo_loggedAs_3 : decode prog_8_method_20_code 3 = .ok (.if_icmp .lt 8, 3) := by decide +kernel
theorem d_Mo_loggedAs_6 : decode prog_8_method_20_code 6 = .ok (.bipush 70, 2) := by decide +kernel
theorem d_Mo_loggedAs_8 : decode prog_8_method_20_code 8 = .ok (.iload_n 0, 1) := by decide +kernel
theorem d_Mo_loggedAs_9 : decode prog_8_method_20_code 9 = .ok (.iadd, 1) := by decide +kernel
theorem d_Mo_loggedAs_10 : decode prog_8_method_20_code 10 = .ok (.ireturn, 1) := by decide +kernel
theorem d_Mo_loggedAs_11 : decode prog_8_method_20_code 11 = .ok (.iload_n 0, 1) := by decide +kernel
theorem d_Mo_loggedAs_12 : decode prog_8_method_20_code 12 = .ok (.bipush 20, 2) := by decide +kernel
theorem d_Mo_loggedAs_14 : decode prog_8_method_20_code 14 = .ok (.if_icmp .ne 7, 3) := by decide +kernel
theorem d_Mo_loggedAs_17 : decode prog_8_method_20_code 17 = .ok (.iconst (-1), 1) := by decide +kernel
theorem d_Mo_loggedAs_18 : decode prog_8_method_20_code 18 = .ok (.goto 18, 3) := by decide +kernel
theorem d_Mo_loggedAs_21 : decode prog_8_method_20_code 21 = .ok (.iload_n 0, 1) := by decide +kernel
theorem d_Mo_loggedAs_22 : decode prog_8_method_20_code 22 = .ok (.bipush 21, 2) := by decide +kernel
theorem d_Mo_loggedAs_24 : decode prog_8_method_20_code 24 = .ok (.if_icmp .ne 8, 3) := by decide +kernel
theorem d_Mo_loggedAs_27 : decode prog_8_method_20_code 27 = .ok (.bipush (-2), 2) := by decide +kernel
theorem d_Mo_loggedAs_29 : decode prog_8_method_20_code 29 = .ok (.goto 7, 3) := by decide +kernel
theorem d_Mo_loggedAs_32 : decode prog_8_method_20_code 32 = .ok (.iload_n 0, 1) := by decide +kernel
theorem d_Mo_loggedAs_33 : decode prog_8_method_20_code 33 = .ok (.bipush 10, 2) := by decide +kernel
theorem d_Mo_loggedAs_35 : decode prog_8_method_20_code 35 = .ok (.irem, 1) := by decide +kernel
theorem d_Mo_loggedAs_36 : decode prog_8_method_20_code 36 = .ok (.ireturn, 1) := by decide +kernel
def f_Mo_loggedAs (M : cs_Mem) (x0 : Int32) : Int32 :=
  if x0 < 30 then
    if x0 = 20 then
      (-1)
    else
      if x0 = 21 then
        (-2)
      else
        x0 - x0 / 10 * 10
  else
    70 + x0
set_option maxHeartbeats 4000000 in
set_option maxRecDepth 100000 in
theorem c_Mo_loggedAs (l : Launch) (D : va_G) (cA : Nat → ClassId) (ad : Nat → Nat) (M : cs_Mem) (x0 : Int32) : cs_Ci l ⟨"ClassStarterModel", "loggedAs", "(I)I"⟩ prog_8_method_20_code 1 (some .int) ({ frames := 0, cells := 0, slots := 0, locals := 0 }) D cA ad M [.int x0] ((f_Mo_loggedAs M x0, M)) := by
  refine cs_entry (by decide) (Nat.le_of_ble_eq_true rfl) (fun p e s m below meth c A ls hC hr hlk _ hw hl => ?_)
  have hx := hC.1
  have hb := hC.2.1
  have hl : lv_has ls 1 [(0, .int x0)] := hl
  generalize hF : f_Mo_loggedAs M x0 = F
  have hf := hF.symm
  unfold f_Mo_loggedAs at hf
  refine lv_iload_n hx hb d_Mo_loggedAs_0 rfl (lv_at hl 0 rfl) ?_
  refine lv_bipush (v := 30) hx hb d_Mo_loggedAs_1 (by decide) ?_
  refine lv_icmp_lt (tgt := 11) hx hb d_Mo_loggedAs_3 (by decide) (fun c1 => ?_) (fun c1 => ?_)
  · have hf := hf.trans (if_pos c1)
    refine lv_iload_n hx hb d_Mo_loggedAs_11 rfl (lv_at hl 0 rfl) ?_
    refine lv_bipush (v := 20) hx hb d_Mo_loggedAs_12 (by decide) ?_
    refine lv_icmp_ne (tgt := 21) hx hb d_Mo_loggedAs_14 (by decide) (fun c2 => ?_) (fun c2 => ?_)
    · have hf := hf.trans (if_neg c2)
      refine lv_iload_n hx hb d_Mo_loggedAs_21 rfl (lv_at hl 0 rfl) ?_
      refine lv_bipush (v := 21) hx hb d_Mo_loggedAs_22 (by decide) ?_
      refine lv_icmp_ne (tgt := 32) hx hb d_Mo_loggedAs_24 (by decide) (fun c3 => ?_) (fun c3 => ?_)
      · have hf := hf.trans (if_neg c3)
        refine lv_iload_n hx hb d_Mo_loggedAs_32 rfl (lv_at hl 0 rfl) ?_
        refine lv_bipush (v := 10) hx hb d_Mo_loggedAs_33 (by decide) ?_
        refine lv_irem hx hb d_Mo_loggedAs_35 (by decide) ?_
        exact cs_iret hC hw hr hlk (congrArg (fun z => (z, M)) hf) d_Mo_loggedAs_36
      · have hf := hf.trans (if_pos c3)
        refine lv_bipush (v := (-2)) hx hb d_Mo_loggedAs_27 (by decide) ?_
        refine lv_goto (tgt := 36) hx hb d_Mo_loggedAs_29 (by decide) ?_
        exact cs_iret hC hw hr hlk (congrArg (fun z => (z, M)) hf) d_Mo_loggedAs_36
    · have hf := hf.trans (if_pos c2)
      refine lv_iconst (v := (-1)) hx hb d_Mo_loggedAs_17 (by decide) ?_
      refine lv_goto (tgt := 36) hx hb d_Mo_loggedAs_18 (by decide) ?_
      exact cs_iret hC hw hr hlk (congrArg (fun z => (z, M)) hf) d_Mo_loggedAs_36
  · have hf := hf.trans (if_neg c1)
    refine lv_bipush (v := 70) hx hb d_Mo_loggedAs_6 (by decide) ?_
    refine lv_iload_n hx hb d_Mo_loggedAs_8 rfl (lv_at hl 0 rfl) ?_
    refine lv_iadd hx hb d_Mo_loggedAs_9 ?_
    exact cs_iret hC hw hr hlk (congrArg (fun z => (z, M)) hf) d_Mo_loggedAs_10
theorem d_Mo_come_0 : decode prog_8_method_21_code 0 = .ok (.aload_n 0, 1) := by decide +kernel
theorem d_Mo_come_1 : decode prog_8_method_21_code 1 = .ok (.iload_n 1, 1) := by decide +kernel
theorem d_Mo_come_2 : decode prog_8_method_21_code 2 = .ok (.invokevirtual 113, 3) := by decide +kernel
theorem d_Mo_come_5 : decode prog_8_method_21_code 5 = .ok (.istore_n 3, 1) := by decide +kernel
theorem d_Mo_come_6 : decode prog_8_method_21_code 6 = .ok (.aload_n 0, 1) := by decide +kernel
theorem d_Mo_come_7 : decode prog_8_method_21_code 7 = .ok (.iload_n 1, 1) := by decide +kernel
theorem d_Mo_come_8 : decode prog_8_method_21_code 8 = .ok (.aload_n 0, 1) := by decide +kernel
theorem d_Mo_come_9 : decode prog_8_method_21_code 9 = .ok (.getfield 65, 3) := by decide +kernel
theorem d_Mo_come_12 : decode prog_8_method_21_code 12 = .ok (.iload_n 3, 1) := by decide +kernel
theorem d_Mo_come_13 : decode prog_8_method_21_code 13 = .ok (.iaload, 1) := by decide +kernel
theorem d_Mo_come_14 : decode prog_8_method_21_code 14 = .ok (.invokevirtual 120, 3) := by decide +kernel
theorem d_Mo_come_17 : decode prog_8_method_21_code 17 = .ok (.istore 4, 2) := by decide +kernel
theorem d_Mo_come_19 : decode prog_8_method_21_code 19 = .ok (.iload 4, 2) := by decide +kernel
theorem d_Mo_come_21 : decode prog_8_method_21_code 21 = .ok (.ifCond .lt 40, 3) := by decide +kernel
theorem d_Mo_come_24 : decode prog_8_method_21_code 24 = .ok (.aload_n 0, 1) := by decide +kernel
theorem d_Mo_come_25 : decode prog_8_method_21_code 25 = .ok (.getfield 65, 3) := by decide +kernel
theorem d_Mo_come_28 : decode prog_8_method_21_code 28 = .ok (.iload_n 3, 1) := by decide +kernel
theorem d_Mo_come_29 : decode prog_8_method_21_code 29 = .ok (.iaload, 1) := by decide +kernel
theorem d_Mo_come_30 : decode prog_8_method_21_code 30 = .ok (.aload_n 0, 1) := by decide +kernel
theorem d_Mo_come_31 : decode prog_8_method_21_code 31 = .ok (.aload_n 0, 1) := by decide +kernel
theorem d_Mo_come_32 : decode prog_8_method_21_code 32 = .ok (.getfield 62, 3) := by decide +kernel
theorem d_Mo_come_35 : decode prog_8_method_21_code 35 = .ok (.iload_n 3, 1) := by decide +kernel
theorem d_Mo_come_36 : decode prog_8_method_21_code 36 = .ok (.iaload, 1) := by decide +kernel
theorem d_Mo_come_37 : decode prog_8_method_21_code 37 = .ok (.invokevirtual 109, 3) := by decide +kernel
theorem d_Mo_come_40 : decode prog_8_method_21_code 40 = .ok (.if_icmp .le 21, 3) := by decide +kernel
theorem d_Mo_come_43 : decode prog_8_method_21_code 43 = .ok (.aload_n 0, 1) := by decide +kernel
theorem d_Mo_come_44 : decode prog_8_method_21_code 44 = .ok (.getfield 38, 3) := by decide +kernel
theorem d_Mo_come_47 : decode prog_8_method_21_code 47 = .ok (.iload 4, 2) := by decide +kernel
theorem d_Mo_come_49 : decode prog_8_method_21_code 49 = .ok (.iconst 1, 1) := by decide +kernel
theorem d_Mo_come_50 : decode prog_8_method_21_code 50 = .ok (.isub, 1) := by decide +kernel
theorem d_Mo_come_51 : decode prog_8_method_21_code 51 = .ok (.iaload, 1) := by decide +kernel
theorem d_Mo_come_52 : decode prog_8_method_21_code 52 = .ok (.bipush 6, 2) := by decide +kernel
theorem d_Mo_come_54 : decode prog_8_method_21_code 54 = .ok (.if_icmp .ne 7, 3) := by decide +kernel
theorem d_Mo_come_57 : decode prog_8_method_21_code 57 = .ok (.iconst 1, 1) := by decide +kernel
theorem d_Mo_come_58 : decode prog_8_method_21_code 58 = .ok (.goto 4, 3) := by decide +kernel
theorem d_Mo_come_61 : decode prog_8_method_21_code 61 = .ok (.iconst 0, 1) := by decide +kernel
theorem d_Mo_come_62 : decode prog_8_method_21_code 62 = .ok (.istore 5, 2) := by decide +kernel
theorem d_Mo_come_64 : decode prog_8_method_21_code 64 = .ok (.iload 5, 2) := by decide +kernel
theorem d_Mo_come_66 : decode prog_8_method_21_code 66 = .ok (.ifCond .eq 29, 3) := by decide +kernel
theorem d_Mo_come_69 : decode prog_8_method_21_code 69 = .ok (.aload_n 0, 1) := by decide +kernel
theorem d_Mo_come_70 : decode prog_8_method_21_code 70 = .ok (.iload_n 2, 1) := by decide +kernel
theorem d_Mo_come_71 : decode prog_8_method_21_code 71 = .ok (.invokestatic 133, 3) := by decide +kernel
theorem d_Mo_come_74 : decode prog_8_method_21_code 74 = .ok (.invokevirtual 136, 3) := by decide +kernel
theorem d_Mo_come_77 : decode prog_8_method_21_code 77 = .ok (.aload_n 0, 1) := by decide +kernel
theorem d_Mo_come_78 : decode prog_8_method_21_code 78 = .ok (.getfield 65, 3) := by decide +kernel
theorem d_Mo_come_81 : decode prog_8_method_21_code 81 = .ok (.iload_n 3, 1) := by decide +kernel
theorem d_Mo_come_82 : decode prog_8_method_21_code 82 = .ok (.dup2, 1) := by decide +kernel
theorem d_Mo_come_83 : decode prog_8_method_21_code 83 = .ok (.iaload, 1) := by decide +kernel
theorem d_Mo_come_84 : decode prog_8_method_21_code 84 = .ok (.iconst 1, 1) := by decide +kernel
theorem d_Mo_come_85 : decode prog_8_method_21_code 85 = .ok (.iadd, 1) := by decide +kernel
theorem d_Mo_come_86 : decode prog_8_method_21_code 86 = .ok (.iastore, 1) := by decide +kernel
theorem d_Mo_come_87 : decode prog_8_method_21_code 87 = .ok (.aload_n 0, 1) := by decide +kernel
theorem d_Mo_come_88 : decode prog_8_method_21_code 88 = .ok (.iload_n 1, 1) := by decide +kernel
theorem d_Mo_come_89 : decode prog_8_method_21_code 89 = .ok (.invokevirtual 105, 3) := by decide +kernel
theorem d_Mo_come_92 : decode prog_8_method_21_code 92 = .ok (.goto 32, 3) := by decide +kernel
theorem d_Mo_come_95 : decode prog_8_method_21_code 95 = .ok (.aload_n 0, 1) := by decide +kernel
theorem d_Mo_come_96 : decode prog_8_method_21_code 96 = .ok (.getfield 62, 3) := by decide +kernel
theorem d_Mo_come_99 : decode prog_8_method_21_code 99 = .ok (.iload_n 3, 1) := by decide +kernel
theorem d_Mo_come_100 : decode prog_8_method_21_code 100 = .ok (.iaload, 1) := by decide +kernel
theorem d_Mo_come_101 : decode prog_8_method_21_code 101 = .ok (.ifCond .ge 16, 3) := by decide +kernel
theorem d_Mo_come_104 : decode prog_8_method_21_code 104 = .ok (.aload_n 0, 1) := by decide +kernel
theorem d_Mo_come_105 : decode prog_8_method_21_code 105 = .ok (.getfield 74, 3) := by decide +kernel
theorem d_Mo_come_108 : decode prog_8_method_21_code 108 = .ok (.iload_n 1, 1) := by decide +kernel
theorem d_Mo_come_109 : decode prog_8_method_21_code 109 = .ok (.iload_n 2, 1) := by decide +kernel
theorem d_Mo_come_110 : decode prog_8_method_21_code 110 = .ok (.invokestatic 139, 3) := by decide +kernel
theorem d_Mo_come_113 : decode prog_8_method_21_code 113 = .ok (.iastore, 1) := by decide +kernel
theorem d_Mo_come_114 : decode prog_8_method_21_code 114 = .ok (.goto 10, 3) := by decide +kernel
theorem d_Mo_come_117 : decode prog_8_method_21_code 117 = .ok (.aload_n 0, 1) := by decide +kernel
theorem d_Mo_come_118 : decode prog_8_method_21_code 118 = .ok (.getfield 71, 3) := by decide +kernel
theorem d_Mo_come_121 : decode prog_8_method_21_code 121 = .ok (.iload_n 1, 1) := by decide +kernel
theorem d_Mo_come_122 : decode prog_8_method_21_code 122 = .ok (.iload_n 2, 1) := by decide +kernel
theorem d_Mo_come_123 : decode prog_8_method_21_code 123 = .ok (.iastore, 1) := by decide +kernel
theorem d_Mo_come_124 : decode prog_8_method_21_code 124 = .ok (.return_, 1) := by decide +kernel
def f_Mo_come_J61 (M : cs_Mem) (j : Nat) (y1 : Int32) (y2 : Int32) (y3 : Int32) : cs_Mem :=
  if 0 ≤ (M 80 y3.toNatClampNeg) then
    cs_bd (cs_up M 83 (upd (M 83) y1.toNatClampNeg y2)) fun (N27 : cs_Mem) =>
    N27
  else
    cs_bd (f_Mo_resultOf M y2) fun (r28 : Int32) =>
    cs_bd (cs_up M 84 (upd (M 84) y1.toNatClampNeg r28)) fun (N30 : cs_Mem) =>
    N30
def pre_Mo_come_J61 (M : cs_Mem) (j : Nat) (y1 : Int32) (y2 : Int32) (y3 : Int32) : Prop :=
  (vp_in y3 (cs_ln M 80)) ∧
  (0 ≤ (M 80 y3.toNatClampNeg) →
    (vp_in y1 (cs_ln M 83)) ∧
    True
  ) ∧ (¬ (0 ≤ (M 80 y3.toNatClampNeg)) →
    cs_bd (f_Mo_resultOf M y2) fun (r28 : Int32) =>
    (vp_in y1 (cs_ln M 84)) ∧
    True
  )
def f_Mo_come (M : cs_Mem) (j : Nat) (x1 : Int32) (x2 : Int32) : cs_Mem :=
  cs_bd (f_Mo_top M j x1) fun (r2 : Int32) =>
  cs_bd (f_Mo_actionAt M j x1 (M 81 r2.toNatClampNeg)) fun (r5 : Int32) =>
  if r5 < 0 then
    f_Mo_come_J61 M j x1 x2 r2
  else
    cs_bd (f_Mo_uses M j (M 80 r2.toNatClampNeg)) fun (r10 : Int32) =>
    if (M 81 r2.toNatClampNeg) ≤ r10 then
      f_Mo_come_J61 M j x1 x2 r2
    else
      if (M 72 (r5 - 1).toNatClampNeg) = 6 then
        cs_bd (f_Mo_loggedAs M x2) fun (r15 : Int32) =>
        cs_bd (f_Mo_note M j r15) fun (u17 : cs_Mem) =>
        cs_bd (cs_up u17 81 (upd (u17 81) r2.toNatClampNeg ((u17 81 r2.toNatClampNeg) + 1))) fun (N20 : cs_Mem) =>
        cs_bd (f_Mo_finish N20 j x1) fun (u22 : cs_Mem) =>
        u22
      else
        f_Mo_come_J61 M j x1 x2 r2
def pre_Mo_come (M : cs_Mem) (j : Nat) (x1 : Int32) (x2 : Int32) : Prop :=
  (pre_Mo_top M j x1) ∧
  cs_bd (f_Mo_top M j x1) fun (r2 : Int32) =>
  (vp_in r2 (cs_ln M 81)) ∧
  (pre_Mo_actionAt M j x1 (M 81 r2.toNatClampNeg)) ∧
  cs_bd (f_Mo_actionAt M j x1 (M 81 r2.toNatClampNeg)) fun (r5 : Int32) =>
  (r5 < 0 →
    pre_Mo_come_J61 M j x1 x2 r2
  ) ∧ (¬ (r5 < 0) →
    (vp_in r2 (cs_ln M 81)) ∧
    (vp_in r2 (cs_ln M 80)) ∧
    (pre_Mo_uses M j (M 80 r2.toNatClampNeg)) ∧
    cs_bd (f_Mo_uses M j (M 80 r2.toNatClampNeg)) fun (r10 : Int32) =>
    ((M 81 r2.toNatClampNeg) ≤ r10 →
      pre_Mo_come_J61 M j x1 x2 r2
    ) ∧ (¬ ((M 81 r2.toNatClampNeg) ≤ r10) →
      (vp_in (r5 - 1) (cs_ln M 72)) ∧
      ((M 72 (r5 - 1).toNatClampNeg) = 6 →
        cs_bd (f_Mo_loggedAs M x2) fun (r15 : Int32) =>
        (pre_Mo_note M j r15) ∧
        cs_bd (f_Mo_note M j r15) fun (u17 : cs_Mem) =>
        (vp_in r2 (cs_ln u17 81)) ∧
        (vp_in r2 (cs_ln u17 81)) ∧
        cs_bd (cs_up u17 81 (upd (u17 81) r2.toNatClampNeg ((u17 81 r2.toNatClampNeg) + 1))) fun (N20 : cs_Mem) =>
        (pre_Mo_finish N20 j x1) ∧
        True
      ) ∧ (¬ ((M 72 (r5 - 1).toNatClampNeg) = 6) →
        pre_Mo_come_J61 M j x1 x2 r2
      )
    )
  )
set_option maxHeartbeats 4000000 in
set_option maxRecDepth 100000 in
theorem w_Mo_come_J61 {p : Program} {l : Launch} {e : Env} {s : State} {m : MethodId} {args : Array Value} {below : List Frame} {meth : Method} {c : Code} {D : va_G} {cA : Nat → ClassId} {A : Nat → Prop} {ad : Nat → Nat} {F : cs_Mem} (hC : cs_Ctx p s m args c prog_8_method_21_code 6 "ClassStarterModel" D cA A) (hr : meth.sig.returnType = none) (hlk : meth.locks = false) : ∀ (M : cs_Mem) (j : Nat) (y1 : Int32) (y2 : Int32) (y3 : Int32) (H : Heap) (locs : List Loc) (ls : Array Slot), cs_Wd D cA ad M A s H locs → lv_has ls 6 [(0, .ref (ad j)), (1, .int y1), (2, .int y2), (3, .int y3)] → cs_is 5 j → pre_Mo_come_J61 M j y1 y2 y3 → F = f_Mo_come_J61 M j y1 y2 y3 → W p l e ({ frames := 3, cells := 0, slots := 0, locals := 69 }) s m args below meth c H locs 0 0 (MQ below (cs_Qv D cA ad F A) args s 0 0 A) (F0 m 61 ls []) := by
  have hx := hC.1
  have hb := hC.2.1
  intro M j y1 y2 y3 H locs ls hw hl g0 hp hf
  unfold f_Mo_come_J61 at hf
  unfold pre_Mo_come_J61 at hp
  refine lv_iconst (v := 0) hx hb d_Mo_come_61 (by decide) ?_
  refine lv_istore (lv' := [(5, .int 0), (0, .ref (ad j)), (1, .int y1), (2, .int y2), (3, .int y3)]) hx hb d_Mo_come_62 hl (by decide) rfl (fun ls hl => ?_)
  refine lv_iload hx hb d_Mo_come_64 (lv_at hl 0 rfl) ?_
  refine lv_if_eq (tgt := 95) hx hb d_Mo_come_66 (by decide) (fun _ => ?_) (fun c23 => absurd c23 (by decide))
  refine lv_aload_n hx hb d_Mo_come_95 rfl (lv_at hl 1 rfl) ?_
  refine gf_Mo_frame hC hw g0 wd_569 d_Mo_come_96 ?_
  refine lv_iload_n hx hb d_Mo_come_99 rfl (lv_at hl 4 rfl) ?_
  have o24 := hp.1
  have hp := hp.2
  refine cs_iald hC hw is_80 o24 d_Mo_come_100 ?_
  refine lv_if_ge (tgt := 117) hx hb d_Mo_come_101 (by decide) (fun c25 => ?_) (fun c25 => ?_)
  · have hp := hp.1 c25
    have hf := hf.trans (if_pos c25)
    refine lv_aload_n hx hb d_Mo_come_117 rfl (lv_at hl 1 rfl) ?_
    refine gf_Mo_pending hC hw g0 wd_572 d_Mo_come_118 ?_
    refine lv_iload_n hx hb d_Mo_come_121 rfl (lv_at hl 2 rfl) ?_
    refine lv_iload_n hx hb d_Mo_come_122 rfl (lv_at hl 3 rfl) ?_
    have o26 := hp.1
    have hp := hp.2
    refine cs_iast hC hw is_83 o26 d_Mo_come_123 (fun N27 H locs eN27 hw => ?_)
    have hf := cs_bdE eN27 hf
    exact cs_vret hC hw hr hlk hf d_Mo_come_124
  · have hp := hp.2 c25
    have hf := hf.trans (if_neg c25)
    refine lv_aload_n hx hb d_Mo_come_104 rfl (lv_at hl 1 rfl) ?_
    refine gf_Mo_ended hC hw g0 wd_573 d_Mo_come_105 ?_
    refine lv_iload_n hx hb d_Mo_come_108 rfl (lv_at hl 2 rfl) ?_
    refine lv_iload_n hx hb d_Mo_come_109 rfl (lv_at hl 3 rfl) ?_
    refine cs_ret_p hC hw (cs_runS (As := [.int y2]) (rest := [.int y1, .ref (ad 84)]) hC hw (c_Mo_resultOf l D cA ad M y2 _) rfl rfl cw_Mo_139 ⟨Nat.le_of_ble_eq_true rfl, Nat.le_of_ble_eq_true rfl⟩ hl.1 rfl rfl (Nat.le_of_ble_eq_true rfl) d_Mo_come_110 ⟨Nat.zero_le _, Nat.zero_le _⟩) (fun r28 H locs er28 hw => ?_)
    have hp := cs_bdP er28 hp
    have hf := cs_bdE er28 hf
    have o29 := hp.1
    have hp := hp.2
    refine cs_iast hC hw is_84 o29 d_Mo_come_113 (fun N30 H locs eN30 hw => ?_)
    have hf := cs_bdE eN30 hf
    refine lv_goto (tgt := 124) hx hb d_Mo_come_114 (by decide) ?_
    exact cs_vret hC hw hr hlk hf d_Mo_come_124
set_option maxHeartbeats 4000000 in
set_option maxRecDepth 100000 in
theorem c_Mo_come (l : Launch) (D : va_G) (cA : Nat → ClassId) (ad : Nat → Nat) (M : cs_Mem) (j : Nat) (hj : cs_is 5 j) (x1 : Int32) (x2 : Int32) (hp : pre_Mo_come M j x1 x2) : cs_Cv l ⟨"ClassStarterModel", "come", "(II)V"⟩ prog_8_method_21_code 6 none ({ frames := 3, cells := 0, slots := 0, locals := 69 }) D cA ad M [.ref (ad j), .int x1, .int x2] (f_Mo_come M j x1 x2) := by
  refine cs_entry (by decide) (Nat.le_of_ble_eq_true rfl) (fun p e s m below meth c A ls hC hr hlk _ hw hl => ?_)
  have hx := hC.1
  have hb := hC.2.1
  have hl : lv_has ls 6 [(0, .ref (ad j)), (1, .int x1), (2, .int x2)] := hl
  generalize hF : f_Mo_come M j x1 x2 = F
  have hf := hF.symm
  unfold f_Mo_come at hf
  unfold pre_Mo_come at hp
  refine lv_aload_n hx hb d_Mo_come_0 rfl (lv_at hl 0 rfl) ?_
  refine lv_iload_n hx hb d_Mo_come_1 rfl (lv_at hl 1 rfl) ?_
  have o1 := hp.1
  have hp := hp.2
  refine cs_ret_p hC hw (cs_runV (As := [.int x1]) (rest := []) hC hw hj.2 (ci := 5) rfl rfl (cs_sg_is hj) (c_Mo_top l D cA ad M j hj x1 o1 _) rfl rfl cw_Mo_113 ⟨Nat.le_of_ble_eq_true rfl, Nat.le_of_ble_eq_true rfl⟩ hl.1 rfl rfl (Nat.le_of_ble_eq_true rfl) d_Mo_come_2 ⟨Nat.zero_le _, Nat.zero_le _⟩) (fun r2 H locs er2 hw => ?_)
  have hp := cs_bdP er2 hp
  have hf := cs_bdE er2 hf
  refine lv_istore_n (lv' := [(3, .int r2), (0, .ref (ad j)), (1, .int x1), (2, .int x2)]) hx hb d_Mo_come_5 rfl hl (by decide) rfl (fun ls hl => ?_)
  refine lv_aload_n hx hb d_Mo_come_6 rfl (lv_at hl 1 rfl) ?_
  refine lv_iload_n hx hb d_Mo_come_7 rfl (lv_at hl 2 rfl) ?_
  refine lv_aload_n hx hb d_Mo_come_8 rfl (lv_at hl 1 rfl) ?_
  refine gf_Mo_part hC hw hj wd_570 d_Mo_come_9 ?_
  refine lv_iload_n hx hb d_Mo_come_12 rfl (lv_at hl 0 rfl) ?_
  have o3 := hp.1
  have hp := hp.2
  refine cs_iald hC hw is_81 o3 d_Mo_come_13 ?_
  have o4 := hp.1
  have hp := hp.2
  refine cs_ret_p hC hw (cs_runV (As := [.int x1, .int (M 81 r2.toNatClampNeg)]) (rest := []) hC hw hj.2 (ci := 5) rfl rfl (cs_sg_is hj) (c_Mo_actionAt l D cA ad M j hj x1 (M 81 r2.toNatClampNeg) o4 _) rfl rfl cw_Mo_120 ⟨Nat.le_of_ble_eq_true rfl, Nat.le_of_ble_eq_true rfl⟩ hl.1 rfl rfl (Nat.le_of_ble_eq_true rfl) d_Mo_come_14 ⟨Nat.zero_le _, Nat.zero_le _⟩) (fun r5 H locs er5 hw => ?_)
  have hp := cs_bdP er5 hp
  have hf := cs_bdE er5 hf
  refine lv_istore (lv' := [(4, .int r5), (3, .int r2), (0, .ref (ad j)), (1, .int x1), (2, .int x2)]) hx hb d_Mo_come_17 hl (by decide) rfl (fun ls hl => ?_)
  refine lv_iload hx hb d_Mo_come_19 (lv_at hl 0 rfl) ?_
  refine lv_if_lt (tgt := 61) hx hb d_Mo_come_21 (by decide) (fun c6 => ?_) (fun c6 => ?_)
  · have hp := hp.1 c6
    have hf := hf.trans (if_pos c6)
    exact w_Mo_come_J61 hC hr hlk M j x1 x2 r2 _ _ ls hw (lv_sub hl [2, 3, 4, 1] rfl) hj hp hf
  · have hp := hp.2 c6
    have hf := hf.trans (if_neg c6)
    refine lv_aload_n hx hb d_Mo_come_24 rfl (lv_at hl 2 rfl) ?_
    refine gf_Mo_part hC hw hj wd_570 d_Mo_come_25 ?_
    refine lv_iload_n hx hb d_Mo_come_28 rfl (lv_at hl 1 rfl) ?_
    have o7 := hp.1
    have hp := hp.2
    refine cs_iald hC hw is_81 o7 d_Mo_come_29 ?_
    refine lv_aload_n hx hb d_Mo_come_30 rfl (lv_at hl 2 rfl) ?_
    refine lv_aload_n hx hb d_Mo_come_31 rfl (lv_at hl 2 rfl) ?_
    refine gf_Mo_frame hC hw hj wd_569 d_Mo_come_32 ?_
    refine lv_iload_n hx hb d_Mo_come_35 rfl (lv_at hl 1 rfl) ?_
    have o8 := hp.1
    have hp := hp.2
    refine cs_iald hC hw is_80 o8 d_Mo_come_36 ?_
    have o9 := hp.1
    have hp := hp.2
    refine cs_ret_p hC hw (cs_runV (As := [.int (M 80 r2.toNatClampNeg)]) (rest := [.int (M 81 r2.toNatClampNeg)]) hC hw hj.2 (ci := 5) rfl rfl (cs_sg_is hj) (c_Mo_uses l D cA ad M j hj (M 80 r2.toNatClampNeg) o9 _) rfl rfl cw_Mo_109 ⟨Nat.le_of_ble_eq_true rfl, Nat.le_of_ble_eq_true rfl⟩ hl.1 rfl rfl (Nat.le_of_ble_eq_true rfl) d_Mo_come_37 ⟨Nat.zero_le _, Nat.zero_le _⟩) (fun r10 H locs er10 hw => ?_)
    have hp := cs_bdP er10 hp
    have hf := cs_bdE er10 hf
    refine lv_icmp_le (tgt := 61) hx hb d_Mo_come_40 (by decide) (fun c11 => ?_) (fun c11 => ?_)
    · have hp := hp.1 c11
      have hf := hf.trans (if_pos c11)
      exact w_Mo_come_J61 hC hr hlk M j x1 x2 r2 _ _ ls hw (lv_sub hl [2, 3, 4, 1] rfl) hj hp hf
    · have hp := hp.2 c11
      have hf := hf.trans (if_neg c11)
      refine lv_aload_n hx hb d_Mo_come_43 rfl (lv_at hl 2 rfl) ?_
      refine gf_Mo_act hC hw hj wd_559 d_Mo_come_44 ?_
      refine lv_iload hx hb d_Mo_come_47 (lv_at hl 0 rfl) ?_
      refine lv_iconst (v := 1) hx hb d_Mo_come_49 (by decide) ?_
      refine lv_isub hx hb d_Mo_come_50 ?_
      have o12 := hp.1
      have hp := hp.2
      refine cs_iald hC hw is_72 o12 d_Mo_come_51 ?_
      refine lv_bipush (v := 6) hx hb d_Mo_come_52 (by decide) ?_
      refine lv_icmp_ne (tgt := 61) hx hb d_Mo_come_54 (by decide) (fun c13 => ?_) (fun c13 => ?_)
      · have hp := hp.2 c13
        have hf := hf.trans (if_neg c13)
        exact w_Mo_come_J61 hC hr hlk M j x1 x2 r2 _ _ ls hw (lv_sub hl [2, 3, 4, 1] rfl) hj hp hf
      · have hp := hp.1 c13
        have hf := hf.trans (if_pos c13)
        refine lv_iconst (v := 1) hx hb d_Mo_come_57 (by decide) ?_
        refine lv_goto (tgt := 62) hx hb d_Mo_come_58 (by decide) ?_
        refine lv_istore (lv' := [(5, .int 1), (4, .int r5), (3, .int r2), (0, .ref (ad j)), (1, .int x1), (2, .int x2)]) hx hb d_Mo_come_62 hl (by decide) rfl (fun ls hl => ?_)
        refine lv_iload hx hb d_Mo_come_64 (lv_at hl 0 rfl) ?_
        refine lv_if_eq (tgt := 95) hx hb d_Mo_come_66 (by decide) (fun c14 => absurd c14 (by decide)) (fun _ => ?_)
        refine lv_aload_n hx hb d_Mo_come_69 rfl (lv_at hl 3 rfl) ?_
        refine lv_iload_n hx hb d_Mo_come_70 rfl (lv_at hl 5 rfl) ?_
        refine cs_ret_p hC hw (cs_runS (As := [.int x2]) (rest := [.ref (ad j)]) hC hw (c_Mo_loggedAs l D cA ad M x2 _) rfl rfl cw_Mo_133 ⟨Nat.le_of_ble_eq_true rfl, Nat.le_of_ble_eq_true rfl⟩ hl.1 rfl rfl (Nat.le_of_ble_eq_true rfl) d_Mo_come_71 ⟨Nat.zero_le _, Nat.zero_le _⟩) (fun r15 H locs er15 hw => ?_)
        have hp := cs_bdP er15 hp
        have hf := cs_bdE er15 hf
        have o16 := hp.1
        have hp := hp.2
        refine cs_ret_v hC hw (cs_runV (As := [.int r15]) (rest := []) hC hw hj.2 (ci := 5) rfl rfl (cs_sg_is hj) (c_Mo_note l D cA ad M j hj r15 o16 _) rfl rfl cw_Mo_136 ⟨Nat.le_of_ble_eq_true rfl, Nat.le_of_ble_eq_true rfl⟩ hl.1 rfl rfl (Nat.le_of_ble_eq_true rfl) d_Mo_come_74 ⟨Nat.zero_le _, Nat.zero_le _⟩) (fun u17 H locs eu17 hw => ?_)
        have hp := cs_bdP eu17 hp
        have hf := cs_bdE eu17 hf
        refine lv_aload_n hx hb d_Mo_come_77 rfl (lv_at hl 3 rfl) ?_
        refine gf_Mo_part hC hw hj wd_570 d_Mo_come_78 ?_
        refine lv_iload_n hx hb d_Mo_come_81 rfl (lv_at hl 2 rfl) ?_
        refine lv_dup2_11 hx hb d_Mo_come_82 rfl rfl ?_
        have o18 := hp.1
        have hp := hp.2
        refine cs_iald hC hw is_81 o18 d_Mo_come_83 ?_
        refine lv_iconst (v := 1) hx hb d_Mo_come_84 (by decide) ?_
        refine lv_iadd hx hb d_Mo_come_85 ?_
        have o19 := hp.1
        have hp := hp.2
        refine cs_iast hC hw is_81 o19 d_Mo_come_86 (fun N20 H locs eN20 hw => ?_)
        have hp := cs_bdP eN20 hp
        have hf := cs_bdE eN20 hf
        refine lv_aload_n hx hb d_Mo_come_87 rfl (lv_at hl 3 rfl) ?_
        refine lv_iload_n hx hb d_Mo_come_88 rfl (lv_at hl 4 rfl) ?_
        have o21 := hp.1
        have hp := hp.2
        refine cs_ret_v hC hw (cs_runV (As := [.int x1]) (rest := []) hC hw hj.2 (ci := 5) rfl rfl (cs_sg_is hj) (c_Mo_finish l D cA ad N20 j hj x1 o21 _) rfl rfl cw_Mo_105 ⟨Nat.le_of_ble_eq_true rfl, Nat.le_of_ble_eq_true rfl⟩ hl.1 rfl rfl (Nat.le_of_ble_eq_true rfl) d_Mo_come_89 ⟨Nat.zero_le _, Nat.zero_le _⟩) (fun u22 H locs eu22 hw => ?_)
        have hf := cs_bdE eu22 hf
        refine lv_goto (tgt := 124) hx hb d_Mo_come_92 (by decide) ?_
        exact cs_vret hC hw hr hlk hf d_Mo_come_124
theorem d_Mo_madeUse_0 : decode prog_8_method_22_code 0 = .ok (.aload_n 0, 1) := by decide +kernel
theorem d_Mo_madeUse_1 : decode prog_8_method_22_code 1 = .ok (.iload_n 1, 1) := by decide +kernel
theorem d_Mo_madeUse_2 : decode prog_8_method_22_code 2 = .ok (.invokevirtual 113, 3) := by decide +kernel
theorem d_Mo_madeUse_5 : decode prog_8_method_22_code 5 = .ok (.istore_n 2, 1) := by decide +kernel
theorem d_Mo_madeUse_6 : decode prog_8_method_22_code 6 = .ok (.aload_n 0, 1) := by decide +kernel
theorem d_Mo_madeUse_7 : decode prog_8_method_22_code 7 = .ok (.iload_n 1, 1) := by decide +kernel
theorem d_Mo_madeUse_8 : decode prog_8_method_22_code 8 = .ok (.aload_n 0, 1) := by decide +kernel
theorem d_Mo_madeUse_9 : decode prog_8_method_22_code 9 = .ok (.getfield 65, 3) := by decide +kernel
theorem d_Mo_madeUse_12 : decode prog_8_method_22_code 12 = .ok (.iload_n 2, 1) := by decide +kernel
theorem d_Mo_madeUse_13 : decode prog_8_method_22_code 13 = .ok (.iaload, 1) := by decide +kernel
theorem d_Mo_madeUse_14 : decode prog_8_method_22_code 14 = .ok (.invokevirtual 120, 3) := by decide +kernel
theorem d_Mo_madeUse_17 : decode prog_8_method_22_code 17 = .ok (.istore_n 3, 1) := by decide +kernel
theorem d_Mo_madeUse_18 : decode prog_8_method_22_code 18 = .ok (.iload_n 3, 1) := by decide +kernel
theorem d_Mo_madeUse_19 : decode prog_8_method_22_code 19 = .ok (.ifCond .lt 46, 3) := by decide +kernel
theorem d_Mo_madeUse_22 : decode prog_8_method_22_code 22 = .ok (.aload_n 0, 1) := by decide +kernel
theorem d_Mo_madeUse_23 : decode prog_8_method_22_code 23 = .ok (.getfield 38, 3) := by decide +kernel
theorem d_Mo_madeUse_26 : decode prog_8_method_22_code 26 = .ok (.iload_n 3, 1) := by decide +kernel
theorem d_Mo_madeUse_27 : decode prog_8_method_22_code 27 = .ok (.iaload, 1) := by decide +kernel
theorem d_Mo_madeUse_28 : decode prog_8_method_22_code 28 = .ok (.iconst 2, 1) := by decide +kernel
theorem d_Mo_madeUse_29 : decode prog_8_method_22_code 29 = .ok (.if_icmp .ne 36, 3) := by decide +kernel
theorem d_Mo_madeUse_32 : decode prog_8_method_22_code 32 = .ok (.aload_n 0, 1) := by decide +kernel
theorem d_Mo_madeUse_33 : decode prog_8_method_22_code 33 = .ok (.getfield 59, 3) := by decide +kernel
theorem d_Mo_madeUse_36 : decode prog_8_method_22_code 36 = .ok (.iconst 2, 1) := by decide +kernel
theorem d_Mo_madeUse_37 : decode prog_8_method_22_code 37 = .ok (.aload_n 0, 1) := by decide +kernel
theorem d_Mo_madeUse_38 : decode prog_8_method_22_code 38 = .ok (.getfield 62, 3) := by decide +kernel
theorem d_Mo_madeUse_41 : decode prog_8_method_22_code 41 = .ok (.iload_n 2, 1) := by decide +kernel
theorem d_Mo_madeUse_42 : decode prog_8_method_22_code 42 = .ok (.iaload, 1) := by decide +kernel
theorem d_Mo_madeUse_43 : decode prog_8_method_22_code 43 = .ok (.imul, 1) := by decide +kernel
theorem d_Mo_madeUse_44 : decode prog_8_method_22_code 44 = .ok (.aload_n 0, 1) := by decide +kernel
theorem d_Mo_madeUse_45 : decode prog_8_method_22_code 45 = .ok (.getfield 59, 3) := by decide +kernel
theorem d_Mo_madeUse_48 : decode prog_8_method_22_code 48 = .ok (.iconst 2, 1) := by decide +kernel
theorem d_Mo_madeUse_49 : decode prog_8_method_22_code 49 = .ok (.aload_n 0, 1) := by decide +kernel
theorem d_Mo_madeUse_50 : decode prog_8_method_22_code 50 = .ok (.getfield 44, 3) := by decide +kernel
theorem d_Mo_madeUse_53 : decode prog_8_method_22_code 53 = .ok (.iload_n 3, 1) := by decide +kernel
theorem d_Mo_madeUse_54 : decode prog_8_method_22_code 54 = .ok (.iaload, 1) := by decide +kernel
theorem d_Mo_madeUse_55 : decode prog_8_method_22_code 55 = .ok (.imul, 1) := by decide +kernel
theorem d_Mo_madeUse_56 : decode prog_8_method_22_code 56 = .ok (.aload_n 0, 1) := by decide +kernel
theorem d_Mo_madeUse_57 : decode prog_8_method_22_code 57 = .ok (.getfield 41, 3) := by decide +kernel
theorem d_Mo_madeUse_60 : decode prog_8_method_22_code 60 = .ok (.iload_n 3, 1) := by decide +kernel
theorem d_Mo_madeUse_61 : decode prog_8_method_22_code 61 = .ok (.iaload, 1) := by decide +kernel
theorem d_Mo_madeUse_62 : decode prog_8_method_22_code 62 = .ok (.iadd, 1) := by decide +kernel
theorem d_Mo_madeUse_63 : decode prog_8_method_22_code 63 = .ok (.iaload, 1) := by decide +kernel
theorem d_Mo_madeUse_64 : decode prog_8_method_22_code 64 = .ok (.iastore, 1) := by decide +kernel
theorem d_Mo_madeUse_65 : decode prog_8_method_22_code 65 = .ok (.aload_n 0, 1) := by decide +kernel
theorem d_Mo_madeUse_66 : decode prog_8_method_22_code 66 = .ok (.getfield 65, 3) := by decide +kernel
theorem d_Mo_madeUse_69 : decode prog_8_method_22_code 69 = .ok (.iload_n 2, 1) := by decide +kernel
theorem d_Mo_madeUse_70 : decode prog_8_method_22_code 70 = .ok (.dup2, 1) := by decide +kernel
theorem d_Mo_madeUse_71 : decode prog_8_method_22_code 71 = .ok (.iaload, 1) := by decide +kernel
theorem d_Mo_madeUse_72 : decode prog_8_method_22_code 72 = .ok (.iconst 1, 1) := by decide +kernel
theorem d_Mo_madeUse_73 : decode prog_8_method_22_code 73 = .ok (.iadd, 1) := by decide +kernel
theorem d_Mo_madeUse_74 : decode prog_8_method_22_code 74 = .ok (.iastore, 1) := by decide +kernel
theorem d_Mo_madeUse_75 : decode prog_8_method_22_code 75 = .ok (.aload_n 0, 1) := by decide +kernel
theorem d_Mo_madeUse_76 : decode prog_8_method_22_code 76 = .ok (.iload_n 1, 1) := by decide +kernel
theorem d_Mo_madeUse_77 : decode prog_8_method_22_code 77 = .ok (.invokevirtual 105, 3) := by decide +kernel
theorem d_Mo_madeUse_80 : decode prog_8_method_22_code 80 = .ok (.return_, 1) := by decide +kernel
def f_Mo_madeUse (M : cs_Mem) (j : Nat) (x1 : Int32) : cs_Mem :=
  cs_bd (f_Mo_top M j x1) fun (r2 : Int32) =>
  cs_bd (f_Mo_actionAt M j x1 (M 81 r2.toNatClampNeg)) fun (r5 : Int32) =>
  if r5 < 0 then
    cs_bd (cs_up M 81 (upd (M 81) r2.toNatClampNeg ((M 81 r2.toNatClampNeg) + 1))) fun (N9 : cs_Mem) =>
    cs_bd (f_Mo_finish N9 j x1) fun (u11 : cs_Mem) =>
    u11
  else
    if (M 72 r5.toNatClampNeg) = 2 then
      cs_bd (cs_up M 79 (upd (M 79) (2 * (M 80 r2.toNatClampNeg)).toNatClampNeg (M 79 ((2 * (M 74 r5.toNatClampNeg)) + (M 73 r5.toNatClampNeg)).toNatClampNeg))) fun (N24 : cs_Mem) =>
      cs_bd (cs_up N24 81 (upd (N24 81) r2.toNatClampNeg ((N24 81 r2.toNatClampNeg) + 1))) fun (N27 : cs_Mem) =>
      cs_bd (f_Mo_finish N27 j x1) fun (u29 : cs_Mem) =>
      u29
    else
      cs_bd (cs_up M 81 (upd (M 81) r2.toNatClampNeg ((M 81 r2.toNatClampNeg) + 1))) fun (N16 : cs_Mem) =>
      cs_bd (f_Mo_finish N16 j x1) fun (u18 : cs_Mem) =>
      u18
def pre_Mo_madeUse (M : cs_Mem) (j : Nat) (x1 : Int32) : Prop :=
  (pre_Mo_top M j x1) ∧
  cs_bd (f_Mo_top M j x1) fun (r2 : Int32) =>
  (vp_in r2 (cs_ln M 81)) ∧
  (pre_Mo_actionAt M j x1 (M 81 r2.toNatClampNeg)) ∧
  cs_bd (f_Mo_actionAt M j x1 (M 81 r2.toNatClampNeg)) fun (r5 : Int32) =>
  (r5 < 0 →
    (vp_in r2 (cs_ln M 81)) ∧
    (vp_in r2 (cs_ln M 81)) ∧
    cs_bd (cs_up M 81 (upd (M 81) r2.toNatClampNeg ((M 81 r2.toNatClampNeg) + 1))) fun (N9 : cs_Mem) =>
    (pre_Mo_finish N9 j x1) ∧
    True
  ) ∧ (¬ (r5 < 0) →
    (vp_in r5 (cs_ln M 72)) ∧
    ((M 72 r5.toNatClampNeg) = 2 →
      (vp_in r2 (cs_ln M 80)) ∧
      (vp_in r5 (cs_ln M 74)) ∧
      (vp_in r5 (cs_ln M 73)) ∧
      (vp_in ((2 * (M 74 r5.toNatClampNeg)) + (M 73 r5.toNatClampNeg)) (cs_ln M 79)) ∧
      (vp_in (2 * (M 80 r2.toNatClampNeg)) (cs_ln M 79)) ∧
      cs_bd (cs_up M 79 (upd (M 79) (2 * (M 80 r2.toNatClampNeg)).toNatClampNeg (M 79 ((2 * (M 74 r5.toNatClampNeg)) + (M 73 r5.toNatClampNeg)).toNatClampNeg))) fun (N24 : cs_Mem) =>
      (vp_in r2 (cs_ln N24 81)) ∧
      (vp_in r2 (cs_ln N24 81)) ∧
      cs_bd (cs_up N24 81 (upd (N24 81) r2.toNatClampNeg ((N24 81 r2.toNatClampNeg) + 1))) fun (N27 : cs_Mem) =>
      (pre_Mo_finish N27 j x1) ∧
      True
    ) ∧ (¬ ((M 72 r5.toNatClampNeg) = 2) →
      (vp_in r2 (cs_ln M 81)) ∧
      (vp_in r2 (cs_ln M 81)) ∧
      cs_bd (cs_up M 81 (upd (M 81) r2.toNatClampNeg ((M 81 r2.toNatClampNeg) + 1))) fun (N16 : cs_Mem) =>
      (pre_Mo_finish N16 j x1) ∧
      True
    )
  )
set_option maxHeartbeats 4000000 in
set_option maxRecDepth 100000 in
theorem c_Mo_madeUse (l : Launch) (D : va_G) (cA : Nat → ClassId) (ad : Nat → Nat) (M : cs_Mem) (j : Nat) (hj : cs_is 5 j) (x1 : Int32) (hp : pre_Mo_madeUse M j x1) : cs_Cv l ⟨"ClassStarterModel", "madeUse", "(I)V"⟩ prog_8_method_22_code 4 none ({ frames := 3, cells := 0, slots := 0, locals := 69 }) D cA ad M [.ref (ad j), .int x1] (f_Mo_madeUse M j x1) := by
  refine cs_entry (by decide) (Nat.le_of_ble_eq_true rfl) (fun p e s m below meth c A ls hC hr hlk _ hw hl => ?_)
  have hx := hC.1
  have hb := hC.2.1
  have hl : lv_has ls 4 [(0, .ref (ad j)), (1, .int x1)] := hl
  generalize hF : f_Mo_madeUse M j x1 = F
  have hf := hF.symm
  unfold f_Mo_madeUse at hf
  unfold pre_Mo_madeUse at hp
  refine lv_aload_n hx hb d_Mo_madeUse_0 rfl (lv_at hl 0 rfl) ?_
  refine lv_iload_n hx hb d_Mo_madeUse_1 rfl (lv_at hl 1 rfl) ?_
  have o1 := hp.1
  have hp := hp.2
  refine cs_ret_p hC hw (cs_runV (As := [.int x1]) (rest := []) hC hw hj.2 (ci := 5) rfl rfl (cs_sg_is hj) (c_Mo_top l D cA ad M j hj x1 o1 _) rfl rfl cw_Mo_113 ⟨Nat.le_of_ble_eq_true rfl, Nat.le_of_ble_eq_true rfl⟩ hl.1 rfl rfl (Nat.le_of_ble_eq_true rfl) d_Mo_madeUse_2 ⟨Nat.zero_le _, Nat.zero_le _⟩) (fun r2 H locs er2 hw => ?_)
  have hp := cs_bdP er2 hp
  have hf := cs_bdE er2 hf
  refine lv_istore_n (lv' := [(2, .int r2), (0, .ref (ad j)), (1, .int x1)]) hx hb d_Mo_madeUse_5 rfl hl (by decide) rfl (fun ls hl => ?_)
  refine lv_aload_n hx hb d_Mo_madeUse_6 rfl (lv_at hl 1 rfl) ?_
  refine lv_iload_n hx hb d_Mo_madeUse_7 rfl (lv_at hl 2 rfl) ?_
  refine lv_aload_n hx hb d_Mo_madeUse_8 rfl (lv_at hl 1 rfl) ?_
  refine gf_Mo_part hC hw hj wd_570 d_Mo_madeUse_9 ?_
  refine lv_iload_n hx hb d_Mo_madeUse_12 rfl (lv_at hl 0 rfl) ?_
  have o3 := hp.1
  have hp := hp.2
  refine cs_iald hC hw is_81 o3 d_Mo_madeUse_13 ?_
  have o4 := hp.1
  have hp := hp.2
  refine cs_ret_p hC hw (cs_runV (As := [.int x1, .int (M 81 r2.toNatClampNeg)]) (rest := []) hC hw hj.2 (ci := 5) rfl rfl (cs_sg_is hj) (c_Mo_actionAt l D cA ad M j hj x1 (M 81 r2.toNatClampNeg) o4 _) rfl rfl cw_Mo_120 ⟨Nat.le_of_ble_eq_true rfl, Nat.le_of_ble_eq_true rfl⟩ hl.1 rfl rfl (Nat.le_of_ble_eq_true rfl) d_Mo_madeUse_14 ⟨Nat.zero_le _, Nat.zero_le _⟩) (fun r5 H locs er5 hw => ?_)
  have hp := cs_bdP er5 hp
  have hf := cs_bdE er5 hf
  refine lv_istore_n (lv' := [(3, .int r5), (2, .int r2), (0, .ref (ad j)), (1, .int x1)]) hx hb d_Mo_madeUse_17 rfl hl (by decide) rfl (fun ls hl => ?_)
  refine lv_iload_n hx hb d_Mo_madeUse_18 rfl (lv_at hl 0 rfl) ?_
  refine lv_if_lt (tgt := 65) hx hb d_Mo_madeUse_19 (by decide) (fun c6 => ?_) (fun c6 => ?_)
  · have hp := hp.1 c6
    have hf := hf.trans (if_pos c6)
    refine lv_aload_n hx hb d_Mo_madeUse_65 rfl (lv_at hl 2 rfl) ?_
    refine gf_Mo_part hC hw hj wd_570 d_Mo_madeUse_66 ?_
    refine lv_iload_n hx hb d_Mo_madeUse_69 rfl (lv_at hl 1 rfl) ?_
    refine lv_dup2_11 hx hb d_Mo_madeUse_70 rfl rfl ?_
    have o7 := hp.1
    have hp := hp.2
    refine cs_iald hC hw is_81 o7 d_Mo_madeUse_71 ?_
    refine lv_iconst (v := 1) hx hb d_Mo_madeUse_72 (by decide) ?_
    refine lv_iadd hx hb d_Mo_madeUse_73 ?_
    have o8 := hp.1
    have hp := hp.2
    refine cs_iast hC hw is_81 o8 d_Mo_madeUse_74 (fun N9 H locs eN9 hw => ?_)
    have hp := cs_bdP eN9 hp
    have hf := cs_bdE eN9 hf
    refine lv_aload_n hx hb d_Mo_madeUse_75 rfl (lv_at hl 2 rfl) ?_
    refine lv_iload_n hx hb d_Mo_madeUse_76 rfl (lv_at hl 3 rfl) ?_
    have o10 := hp.1
    have hp := hp.2
    refine cs_ret_v hC hw (cs_runV (As := [.int x1]) (rest := []) hC hw hj.2 (ci := 5) rfl rfl (cs_sg_is hj) (c_Mo_finish l D cA ad N9 j hj x1 o10 _) rfl rfl cw_Mo_105 ⟨Nat.le_of_ble_eq_true rfl, Nat.le_of_ble_eq_true rfl⟩ hl.1 rfl rfl (Nat.le_of_ble_eq_true rfl) d_Mo_madeUse_77 ⟨Nat.zero_le _, Nat.zero_le _⟩) (fun u11 H locs eu11 hw => ?_)
    have hf := cs_bdE eu11 hf
    exact cs_vret hC hw hr hlk hf d_Mo_madeUse_80
  · have hp := hp.2 c6
    have hf := hf.trans (if_neg c6)
    refine lv_aload_n hx hb d_Mo_madeUse_22 rfl (lv_at hl 2 rfl) ?_
    refine gf_Mo_act hC hw hj wd_559 d_Mo_madeUse_23 ?_
    refine lv_iload_n hx hb d_Mo_madeUse_26 rfl (lv_at hl 0 rfl) ?_
    have o12 := hp.1
    have hp := hp.2
    refine cs_iald hC hw is_72 o12 d_Mo_madeUse_27 ?_
    refine lv_iconst (v := 2) hx hb d_Mo_madeUse_28 (by decide) ?_
    refine lv_icmp_ne (tgt := 65) hx hb d_Mo_madeUse_29 (by decide) (fun c13 => ?_) (fun c13 => ?_)
    · have hp := hp.2 c13
      have hf := hf.trans (if_neg c13)
      refine lv_aload_n hx hb d_Mo_madeUse_65 rfl (lv_at hl 2 rfl) ?_
      refine gf_Mo_part hC hw hj wd_570 d_Mo_madeUse_66 ?_
      refine lv_iload_n hx hb d_Mo_madeUse_69 rfl (lv_at hl 1 rfl) ?_
      refine lv_dup2_11 hx hb d_Mo_madeUse_70 rfl rfl ?_
      have o14 := hp.1
      have hp := hp.2
      refine cs_iald hC hw is_81 o14 d_Mo_madeUse_71 ?_
      refine lv_iconst (v := 1) hx hb d_Mo_madeUse_72 (by decide) ?_
      refine lv_iadd hx hb d_Mo_madeUse_73 ?_
      have o15 := hp.1
      have hp := hp.2
      refine cs_iast hC hw is_81 o15 d_Mo_madeUse_74 (fun N16 H locs eN16 hw => ?_)
      have hp := cs_bdP eN16 hp
      have hf := cs_bdE eN16 hf
      refine lv_aload_n hx hb d_Mo_madeUse_75 rfl (lv_at hl 2 rfl) ?_
      refine lv_iload_n hx hb d_Mo_madeUse_76 rfl (lv_at hl 3 rfl) ?_
      have o17 := hp.1
      have hp := hp.2
      refine cs_ret_v hC hw (cs_runV (As := [.int x1]) (rest := []) hC hw hj.2 (ci := 5) rfl rfl (cs_sg_is hj) (c_Mo_finish l D cA ad N16 j hj x1 o17 _) rfl rfl cw_Mo_105 ⟨Nat.le_of_ble_eq_true rfl, Nat.le_of_ble_eq_true rfl⟩ hl.1 rfl rfl (Nat.le_of_ble_eq_true rfl) d_Mo_madeUse_77 ⟨Nat.zero_le _, Nat.zero_le _⟩) (fun u18 H locs eu18 hw => ?_)
      have hf := cs_bdE eu18 hf
      exact cs_vret hC hw hr hlk hf d_Mo_madeUse_80
    · have hp := hp.1 c13
      have hf := hf.trans (if_pos c13)
      refine lv_aload_n hx hb d_Mo_madeUse_32 rfl (lv_at hl 2 rfl) ?_
      refine gf_Mo_statics hC hw hj wd_568 d_Mo_madeUse_33 ?_
      refine lv_iconst (v := 2) hx hb d_Mo_madeUse_36 (by decide) ?_
      refine lv_aload_n hx hb d_Mo_madeUse_37 rfl (lv_at hl 2 rfl) ?_
      refine gf_Mo_frame hC hw hj wd_569 d_Mo_madeUse_38 ?_
      refine lv_iload_n hx hb d_Mo_madeUse_41 rfl (lv_at hl 1 rfl) ?_
      have o19 := hp.1
      have hp := hp.2
      refine cs_iald hC hw is_80 o19 d_Mo_madeUse_42 ?_
      refine lv_imul hx hb d_Mo_madeUse_43 ?_
      refine lv_aload_n hx hb d_Mo_madeUse_44 rfl (lv_at hl 2 rfl) ?_
      refine gf_Mo_statics hC hw hj wd_568 d_Mo_madeUse_45 ?_
      refine lv_iconst (v := 2) hx hb d_Mo_madeUse_48 (by decide) ?_
      refine lv_aload_n hx hb d_Mo_madeUse_49 rfl (lv_at hl 2 rfl) ?_
      refine gf_Mo_actB hC hw hj wd_561 d_Mo_madeUse_50 ?_
      refine lv_iload_n hx hb d_Mo_madeUse_53 rfl (lv_at hl 0 rfl) ?_
      have o20 := hp.1
      have hp := hp.2
      refine cs_iald hC hw is_74 o20 d_Mo_madeUse_54 ?_
      refine lv_imul hx hb d_Mo_madeUse_55 ?_
      refine lv_aload_n hx hb d_Mo_madeUse_56 rfl (lv_at hl 2 rfl) ?_
      refine gf_Mo_actA hC hw hj wd_560 d_Mo_madeUse_57 ?_
      refine lv_iload_n hx hb d_Mo_madeUse_60 rfl (lv_at hl 0 rfl) ?_
      have o21 := hp.1
      have hp := hp.2
      refine cs_iald hC hw is_73 o21 d_Mo_madeUse_61 ?_
      refine lv_iadd hx hb d_Mo_madeUse_62 ?_
      have o22 := hp.1
      have hp := hp.2
      refine cs_iald hC hw is_79 o22 d_Mo_madeUse_63 ?_
      have o23 := hp.1
      have hp := hp.2
      refine cs_iast hC hw is_79 o23 d_Mo_madeUse_64 (fun N24 H locs eN24 hw => ?_)
      have hp := cs_bdP eN24 hp
      have hf := cs_bdE eN24 hf
      refine lv_aload_n hx hb d_Mo_madeUse_65 rfl (lv_at hl 2 rfl) ?_
      refine gf_Mo_part hC hw hj wd_570 d_Mo_madeUse_66 ?_
      refine lv_iload_n hx hb d_Mo_madeUse_69 rfl (lv_at hl 1 rfl) ?_
      refine lv_dup2_11 hx hb d_Mo_madeUse_70 rfl rfl ?_
      have o25 := hp.1
      have hp := hp.2
      refine cs_iald hC hw is_81 o25 d_Mo_madeUse_71 ?_
      refine lv_iconst (v := 1) hx hb d_Mo_madeUse_72 (by decide) ?_
      refine lv_iadd hx hb d_Mo_madeUse_73 ?_
      have o26 := hp.1
      have hp := hp.2
      refine cs_iast hC hw is_81 o26 d_Mo_madeUse_74 (fun N27 H locs eN27 hw => ?_)
      have hp := cs_bdP eN27 hp
      have hf := cs_bdE eN27 hf
      refine lv_aload_n hx hb d_Mo_madeUse_75 rfl (lv_at hl 2 rfl) ?_
      refine lv_iload_n hx hb d_Mo_madeUse_76 rfl (lv_at hl 3 rfl) ?_
      have o28 := hp.1
      have hp := hp.2
      refine cs_ret_v hC hw (cs_runV (As := [.int x1]) (rest := []) hC hw hj.2 (ci := 5) rfl rfl (cs_sg_is hj) (c_Mo_finish l D cA ad N27 j hj x1 o28 _) rfl rfl cw_Mo_105 ⟨Nat.le_of_ble_eq_true rfl, Nat.le_of_ble_eq_true rfl⟩ hl.1 rfl rfl (Nat.le_of_ble_eq_true rfl) d_Mo_madeUse_77 ⟨Nat.zero_le _, Nat.zero_le _⟩) (fun u29 H locs eu29 hw => ?_)
      have hf := cs_bdE eu29 hf
      exact cs_vret hC hw hr hlk hf d_Mo_madeUse_80
theorem d_Mo_leave_0 : decode prog_8_method_23_code 0 = .ok (.aload_n 0, 1) := by decide +kernel
theorem d_Mo_leave_1 : decode prog_8_method_23_code 1 = .ok (.getfield 56, 3) := by decide +kernel
theorem d_Mo_leave_4 : decode prog_8_method_23_code 4 = .ok (.aload_n 0, 1) := by decide +kernel
theorem d_Mo_leave_5 : decode prog_8_method_23_code 5 = .ok (.getfield 62, 3) := by decide +kernel
theorem d_Mo_leave_8 : decode prog_8_method_23_code 8 = .ok (.aload_n 0, 1) := by decide +kernel
theorem d_Mo_leave_9 : decode prog_8_method_23_code 9 = .ok (.iload_n 1, 1) := by decide +kernel
theorem d_Mo_leave_10 : decode prog_8_method_23_code 10 = .ok (.invokevirtual 113, 3) := by decide +kernel
theorem d_Mo_leave_13 : decode prog_8_method_23_code 13 = .ok (.iaload, 1) := by decide +kernel
theorem d_Mo_leave_14 : decode prog_8_method_23_code 14 = .ok (.iload_n 2, 1) := by decide +kernel
theorem d_Mo_leave_15 : decode prog_8_method_23_code 15 = .ok (.iastore, 1) := by decide +kernel
theorem d_Mo_leave_16 : decode prog_8_method_23_code 16 = .ok (.aload_n 0, 1) := by decide +kernel
theorem d_Mo_leave_17 : decode prog_8_method_23_code 17 = .ok (.getfield 68, 3) := by decide +kernel
theorem d_Mo_leave_20 : decode prog_8_method_23_code 20 = .ok (.iload_n 1, 1) := by decide +kernel
theorem d_Mo_leave_21 : decode prog_8_method_23_code 21 = .ok (.dup2, 1) := by decide +kernel
theorem d_Mo_leave_22 : decode prog_8_method_23_code 22 = .ok (.iaload, 1) := by decide +kernel
theorem d_Mo_leave_23 : decode prog_8_method_23_code 23 = .ok (.iconst 1, 1) := by decide +kernel
theorem d_Mo_leave_24 : decode prog_8_method_23_code 24 = .ok (.isub, 1) := by decide +kernel
theorem d_Mo_leave_25 : decode prog_8_method_23_code 25 = .ok (.iastore, 1) := by decide +kernel
theorem d_Mo_leave_26 : decode prog_8_method_23_code 26 = .ok (.return_, 1) := by decide +kernel
def f_Mo_leave (M : cs_Mem) (j : Nat) (x1 : Int32) (x2 : Int32) : cs_Mem :=
  cs_bd (f_Mo_top M j x1) fun (r2 : Int32) =>
  cs_bd (cs_up M 78 (upd (M 78) (M 80 r2.toNatClampNeg).toNatClampNeg x2)) fun (N5 : cs_Mem) =>
  cs_bd (cs_up N5 82 (upd (N5 82) x1.toNatClampNeg ((N5 82 x1.toNatClampNeg) - 1))) fun (N8 : cs_Mem) =>
  N8
def pre_Mo_leave (M : cs_Mem) (j : Nat) (x1 : Int32) (x2 : Int32) : Prop :=
  (pre_Mo_top M j x1) ∧
  cs_bd (f_Mo_top M j x1) fun (r2 : Int32) =>
  (vp_in r2 (cs_ln M 80)) ∧
  (vp_in (M 80 r2.toNatClampNeg) (cs_ln M 78)) ∧
  cs_bd (cs_up M 78 (upd (M 78) (M 80 r2.toNatClampNeg).toNatClampNeg x2)) fun (N5 : cs_Mem) =>
  (vp_in x1 (cs_ln N5 82)) ∧
  (vp_in x1 (cs_ln N5 82)) ∧
  True
set_option maxHeartbeats 4000000 in
set_option maxRecDepth 100000 in
theorem c_Mo_leave (l : Launch) (D : va_G) (cA : Nat → ClassId) (ad : Nat → Nat) (M : cs_Mem) (j : Nat) (hj : cs_is 5 j) (x1 : Int32) (x2 : Int32) (hp : pre_Mo_leave M j x1 x2) : cs_Cv l ⟨"ClassStarterModel", "leave", "(II)V"⟩ prog_8_method_23_code 3 none ({ frames := 1, cells := 0, slots := 0, locals := 21 }) D cA ad M [.ref (ad j), .int x1, .int x2] (f_Mo_leave M j x1 x2) := by
  refine cs_entry (by decide) (Nat.le_of_ble_eq_true rfl) (fun p e s m below meth c A ls hC hr hlk _ hw hl => ?_)
  have hx := hC.1
  have hb := hC.2.1
  have hl : lv_has ls 3 [(0, .ref (ad j)), (1, .int x1), (2, .int x2)] := hl
  generalize hF : f_Mo_leave M j x1 x2 = F
  have hf := hF.symm
  unfold f_Mo_leave at hf
  unfold pre_Mo_leave at hp
  refine lv_aload_n hx hb d_Mo_leave_0 rfl (lv_at hl 0 rfl) ?_
  refine gf_Mo_state hC hw hj wd_567 d_Mo_leave_1 ?_
  refine lv_aload_n hx hb d_Mo_leave_4 rfl (lv_at hl 0 rfl) ?_
  refine gf_Mo_frame hC hw hj wd_569 d_Mo_leave_5 ?_
  refine lv_aload_n hx hb d_Mo_leave_8 rfl (lv_at hl 0 rfl) ?_
  refine lv_iload_n hx hb d_Mo_leave_9 rfl (lv_at hl 1 rfl) ?_
  have o1 := hp.1
  have hp := hp.2
  refine cs_ret_p hC hw (cs_runV (As := [.int x1]) (rest := [.ref (ad 80), .ref (ad 78)]) hC hw hj.2 (ci := 5) rfl rfl (cs_sg_is hj) (c_Mo_top l D cA ad M j hj x1 o1 _) rfl rfl cw_Mo_113 ⟨Nat.le_of_ble_eq_true rfl, Nat.le_of_ble_eq_true rfl⟩ hl.1 rfl rfl (Nat.le_of_ble_eq_true rfl) d_Mo_leave_10 ⟨Nat.zero_le _, Nat.zero_le _⟩) (fun r2 H locs er2 hw => ?_)
  have hp := cs_bdP er2 hp
  have hf := cs_bdE er2 hf
  have o3 := hp.1
  have hp := hp.2
  refine cs_iald hC hw is_80 o3 d_Mo_leave_13 ?_
  refine lv_iload_n hx hb d_Mo_leave_14 rfl (lv_at hl 2 rfl) ?_
  have o4 := hp.1
  have hp := hp.2
  refine cs_iast hC hw is_78 o4 d_Mo_leave_15 (fun N5 H locs eN5 hw => ?_)
  have hp := cs_bdP eN5 hp
  have hf := cs_bdE eN5 hf
  refine lv_aload_n hx hb d_Mo_leave_16 rfl (lv_at hl 0 rfl) ?_
  refine gf_Mo_frames hC hw hj wd_571 d_Mo_leave_17 ?_
  refine lv_iload_n hx hb d_Mo_leave_20 rfl (lv_at hl 1 rfl) ?_
  refine lv_dup2_11 hx hb d_Mo_leave_21 rfl rfl ?_
  have o6 := hp.1
  have hp := hp.2
  refine cs_iald hC hw is_82 o6 d_Mo_leave_22 ?_
  refine lv_iconst (v := 1) hx hb d_Mo_leave_23 (by decide) ?_
  refine lv_isub hx hb d_Mo_leave_24 ?_
  have o7 := hp.1
  have hp := hp.2
  refine cs_iast hC hw is_82 o7 d_Mo_leave_25 (fun N8 H locs eN8 hw => ?_)
  have hf := cs_bdE eN8 hf
  exact cs_vret hC hw hr hlk hf d_Mo_leave_26
theorem d_Mo_enter_0 : decode prog_8_method_25_code 0 = .ok (.aload_n 0, 1) := by decide +kernel
theorem d_Mo_enter_1 : decode prog_8_method_25_code 1 = .ok (.getfield 56, 3) := by decide +kernel
theorem d_Mo_enter_4 : decode prog_8_method_25_code 4 = .ok (.iload_n 2, 1) := by decide +kernel
theorem d_Mo_enter_5 : decode prog_8_method_25_code 5 = .ok (.iconst 4, 1) := by decide +kernel
theorem d_Mo_enter_6 : decode prog_8_method_25_code 6 = .ok (.iload_n 1, 1) := by decide +kernel
theorem d_Mo_enter_7 : decode prog_8_method_25_code 7 = .ok (.iadd, 1) := by decide +kernel
theorem d_Mo_enter_8 : decode prog_8_method_25_code 8 = .ok (.iastore, 1) := by decide +kernel
theorem d_Mo_enter_9 : decode prog_8_method_25_code 9 = .ok (.aload_n 0, 1) := by decide +kernel
theorem d_Mo_enter_10 : decode prog_8_method_25_code 10 = .ok (.getfield 68, 3) := by decide +kernel
theorem d_Mo_enter_13 : decode prog_8_method_25_code 13 = .ok (.iload_n 1, 1) := by decide +kernel
theorem d_Mo_enter_14 : decode prog_8_method_25_code 14 = .ok (.dup2, 1) := by decide +kernel
theorem d_Mo_enter_15 : decode prog_8_method_25_code 15 = .ok (.iaload, 1) := by decide +kernel
theorem d_Mo_enter_16 : decode prog_8_method_25_code 16 = .ok (.iconst 1, 1) := by decide +kernel
theorem d_Mo_enter_17 : decode prog_8_method_25_code 17 = .ok (.iadd, 1) := by decide +kernel
theorem d_Mo_enter_18 : decode prog_8_method_25_code 18 = .ok (.iastore, 1) := by decide +kernel
theorem d_Mo_enter_19 : decode prog_8_method_25_code 19 = .ok (.aload_n 0, 1) := by decide +kernel
theorem d_Mo_enter_20 : decode prog_8_method_25_code 20 = .ok (.getfield 62, 3) := by decide +kernel
theorem d_Mo_enter_23 : decode prog_8_method_25_code 23 = .ok (.aload_n 0, 1) := by decide +kernel
theorem d_Mo_enter_24 : decode prog_8_method_25_code 24 = .ok (.iload_n 1, 1) := by decide +kernel
theorem d_Mo_enter_25 : decode prog_8_method_25_code 25 = .ok (.invokevirtual 113, 3) := by decide +kernel
theorem d_Mo_enter_28 : decode prog_8_method_25_code 28 = .ok (.iload_n 2, 1) := by decide +kernel
theorem d_Mo_enter_29 : decode prog_8_method_25_code 29 = .ok (.iastore, 1) := by decide +kernel
theorem d_Mo_enter_30 : decode prog_8_method_25_code 30 = .ok (.aload_n 0, 1) := by decide +kernel
theorem d_Mo_enter_31 : decode prog_8_method_25_code 31 = .ok (.getfield 65, 3) := by decide +kernel
theorem d_Mo_enter_34 : decode prog_8_method_25_code 34 = .ok (.aload_n 0, 1) := by decide +kernel
theorem d_Mo_enter_35 : decode prog_8_method_25_code 35 = .ok (.iload_n 1, 1) := by decide +kernel
theorem d_Mo_enter_36 : decode prog_8_method_25_code 36 = .ok (.invokevirtual 113, 3) := by decide +kernel
theorem d_Mo_enter_39 : decode prog_8_method_25_code 39 = .ok (.iconst 0, 1) := by decide +kernel
theorem d_Mo_enter_40 : decode prog_8_method_25_code 40 = .ok (.iastore, 1) := by decide +kernel
theorem d_Mo_enter_41 : decode prog_8_method_25_code 41 = .ok (.return_, 1) := by decide +kernel
def f_Mo_enter (M : cs_Mem) (j : Nat) (x1 : Int32) (x2 : Int32) : cs_Mem :=
  cs_bd (cs_up M 78 (upd (M 78) x2.toNatClampNeg (4 + x1))) fun (N2 : cs_Mem) =>
  cs_bd (cs_up N2 82 (upd (N2 82) x1.toNatClampNeg ((N2 82 x1.toNatClampNeg) + 1))) fun (N5 : cs_Mem) =>
  cs_bd (f_Mo_top N5 j x1) fun (r7 : Int32) =>
  cs_bd (cs_up N5 80 (upd (N5 80) r7.toNatClampNeg x2)) fun (N9 : cs_Mem) =>
  cs_bd (f_Mo_top N9 j x1) fun (r11 : Int32) =>
  cs_bd (cs_up N9 81 (upd (N9 81) r11.toNatClampNeg 0)) fun (N13 : cs_Mem) =>
  N13
def pre_Mo_enter (M : cs_Mem) (j : Nat) (x1 : Int32) (x2 : Int32) : Prop :=
  (vp_in x2 (cs_ln M 78)) ∧
  cs_bd (cs_up M 78 (upd (M 78) x2.toNatClampNeg (4 + x1))) fun (N2 : cs_Mem) =>
  (vp_in x1 (cs_ln N2 82)) ∧
  (vp_in x1 (cs_ln N2 82)) ∧
  cs_bd (cs_up N2 82 (upd (N2 82) x1.toNatClampNeg ((N2 82 x1.toNatClampNeg) + 1))) fun (N5 : cs_Mem) =>
  (pre_Mo_top N5 j x1) ∧
  cs_bd (f_Mo_top N5 j x1) fun (r7 : Int32) =>
  (vp_in r7 (cs_ln N5 80)) ∧
  cs_bd (cs_up N5 80 (upd (N5 80) r7.toNatClampNeg x2)) fun (N9 : cs_Mem) =>
  (pre_Mo_top N9 j x1) ∧
  cs_bd (f_Mo_top N9 j x1) fun (r11 : Int32) =>
  (vp_in r11 (cs_ln N9 81)) ∧
  True
set_option maxHeartbeats 4000000 in
set_option maxRecDepth 100000 in
theorem c_Mo_enter (l : Launch) (D : va_G) (cA : Nat → ClassId) (ad : Nat → Nat) (M : cs_Mem) (j : Nat) (hj : cs_is 5 j) (x1 : Int32) (x2 : Int32) (hp : pre_Mo_enter M j x1 x2) : cs_Cv l ⟨"ClassStarterModel", "enter", "(II)V"⟩ prog_8_method_25_code 3 none ({ frames := 1, cells := 0, slots := 0, locals := 21 }) D cA ad M [.ref (ad j), .int x1, .int x2] (f_Mo_enter M j x1 x2) := by
  refine cs_entry (by decide) (Nat.le_of_ble_eq_true rfl) (fun p e s m below meth c A ls hC hr hlk _ hw hl => ?_)
  have hx := hC.1
  have hb := hC.2.1
  have hl : lv_has ls 3 [(0, .ref (ad j)), (1, .int x1), (2, .int x2)] := hl
  generalize hF : f_Mo_enter M j x1 x2 = F
  have hf := hF.symm
  unfold f_Mo_enter at hf
  unfold pre_Mo_enter at hp
  refine lv_aload_n hx hb d_Mo_enter_0 rfl (lv_at hl 0 rfl) ?_
  refine gf_Mo_state hC hw hj wd_567 d_Mo_enter_1 ?_
  refine lv_iload_n hx hb d_Mo_enter_4 rfl (lv_at hl 2 rfl) ?_
  refine lv_iconst (v := 4) hx hb d_Mo_enter_5 (by decide) ?_
  refine lv_iload_n hx hb d_Mo_enter_6 rfl (lv_at hl 1 rfl) ?_
  refine lv_iadd hx hb d_Mo_enter_7 ?_
  have o1 := hp.1
  have hp := hp.2
  refine cs_iast hC hw is_78 o1 d_Mo_enter_8 (fun N2 H locs eN2 hw => ?_)
  have hp := cs_bdP eN2 hp
  have hf := cs_bdE eN2 hf
  refine lv_aload_n hx hb d_Mo_enter_9 rfl (lv_at hl 0 rfl) ?_
  refine gf_Mo_frames hC hw hj wd_571 d_Mo_enter_10 ?_
  refine lv_iload_n hx hb d_Mo_enter_13 rfl (lv_at hl 1 rfl) ?_
  refine lv_dup2_11 hx hb d_Mo_enter_14 rfl rfl ?_
  have o3 := hp.1
  have hp := hp.2
  refine cs_iald hC hw is_82 o3 d_Mo_enter_15 ?_
  refine lv_iconst (v := 1) hx hb d_Mo_enter_16 (by decide) ?_
  refine lv_iadd hx hb d_Mo_enter_17 ?_
  have o4 := hp.1
  have hp := hp.2
  refine cs_iast hC hw is_82 o4 d_Mo_enter_18 (fun N5 H locs eN5 hw => ?_)
  have hp := cs_bdP eN5 hp
  have hf := cs_bdE eN5 hf
  refine lv_aload_n hx hb d_Mo_enter_19 rfl (lv_at hl 0 rfl) ?_
  refine gf_Mo_frame hC hw hj wd_569 d_Mo_enter_20 ?_
  refine lv_aload_n hx hb d_Mo_enter_23 rfl (lv_at hl 0 rfl) ?_
  refine lv_iload_n hx hb d_Mo_enter_24 rfl (lv_at hl 1 rfl) ?_
  have o6 := hp.1
  have hp := hp.2
  refine cs_ret_p hC hw (cs_runV (As := [.int x1]) (rest := [.ref (ad 80)]) hC hw hj.2 (ci := 5) rfl rfl (cs_sg_is hj) (c_Mo_top l D cA ad N5 j hj x1 o6 _) rfl rfl cw_Mo_113 ⟨Nat.le_of_ble_eq_true rfl, Nat.le_of_ble_eq_true rfl⟩ hl.1 rfl rfl (Nat.le_of_ble_eq_true rfl) d_Mo_enter_25 ⟨Nat.zero_le _, Nat.zero_le _⟩) (fun r7 H locs er7 hw => ?_)
  have hp := cs_bdP er7 hp
  have hf := cs_bdE er7 hf
  refine lv_iload_n hx hb d_Mo_enter_28 rfl (lv_at hl 2 rfl) ?_
  have o8 := hp.1
  have hp := hp.2
  refine cs_iast hC hw is_80 o8 d_Mo_enter_29 (fun N9 H locs eN9 hw => ?_)
  have hp := cs_bdP eN9 hp
  have hf := cs_bdE eN9 hf
  refine lv_aload_n hx hb d_Mo_enter_30 rfl (lv_at hl 0 rfl) ?_
  refine gf_Mo_part hC hw hj wd_570 d_Mo_enter_31 ?_
  refine lv_aload_n hx hb d_Mo_enter_34 rfl (lv_at hl 0 rfl) ?_
  refine lv_iload_n hx hb d_Mo_enter_35 rfl (lv_at hl 1 rfl) ?_
  have o10 := hp.1
  have hp := hp.2
  refine cs_ret_p hC hw (cs_runV (As := [.int x1]) (rest := [.ref (ad 81)]) hC hw hj.2 (ci := 5) rfl rfl (cs_sg_is hj) (c_Mo_top l D cA ad N9 j hj x1 o10 _) rfl rfl cw_Mo_113 ⟨Nat.le_of_ble_eq_true rfl, Nat.le_of_ble_eq_true rfl⟩ hl.1 rfl rfl (Nat.le_of_ble_eq_true rfl) d_Mo_enter_36 ⟨Nat.zero_le _, Nat.zero_le _⟩) (fun r11 H locs er11 hw => ?_)
  have hp := cs_bdP er11 hp
  have hf := cs_bdE er11 hf
  refine lv_iconst (v := 0) hx hb d_Mo_enter_39 (by decide) ?_
  have o12 := hp.1
  have hp := hp.2
  refine cs_iast hC hw is_81 o12 d_Mo_enter_40 (fun N13 H locs eN13 hw => ?_)
  have hf := cs_bdE eN13 hf
  exact cs_vret hC hw hr hlk hf d_Mo_enter_41
theorem d_Mo_useOf_0 : decode prog_8_method_24_code 0 = .ok (.iload_n 2, 1) := by decide +kernel
theorem d_Mo_useOf_1 : decode prog_8_method_24_code 1 = .ok (.bipush 100, 2) := by decide +kernel
theorem d_Mo_useOf_3 : decode prog_8_method_24_code 3 = .ok (.if_icmp .lt 13, 3) := by decide +kernel
theorem d_Mo_useOf_6 : decode prog_8_method_24_code 6 = .ok (.aload_n 0, 1) := by decide +kernel
theorem d_Mo_useOf_7 : decode prog_8_method_24_code 7 = .ok (.iload_n 1, 1) := by decide +kernel
theorem d_Mo_useOf_8 : decode prog_8_method_24_code 8 = .ok (.bipush 20, 2) := by decide +kernel
theorem d_Mo_useOf_10 : decode prog_8_method_24_code 10 = .ok (.invokevirtual 142, 3) := by decide +kernel
theorem d_Mo_useOf_13 : decode prog_8_method_24_code 13 = .ok (.goto 59, 3) := by decide +kernel
theorem d_Mo_useOf_16 : decode prog_8_method_24_code 16 = .ok (.aload_n 0, 1) := by decide +kernel
theorem d_Mo_useOf_17 : decode prog_8_method_24_code 17 = .ok (.getfield 56, 3) := by decide +kernel
theorem d_Mo_useOf_20 : decode prog_8_method_24_code 20 = .ok (.iload_n 2, 1) := by decide +kernel
theorem d_Mo_useOf_21 : decode prog_8_method_24_code 21 = .ok (.iaload, 1) := by decide +kernel
theorem d_Mo_useOf_22 : decode prog_8_method_24_code 22 = .ok (.iconst 1, 1) := by decide +kernel
theorem d_Mo_useOf_23 : decode prog_8_method_24_code 23 = .ok (.if_icmp .eq 15, 3) := by decide +kernel
theorem d_Mo_useOf_26 : decode prog_8_method_24_code 26 = .ok (.aload_n 0, 1) := by decide +kernel
theorem d_Mo_useOf_27 : decode prog_8_method_24_code 27 = .ok (.getfield 56, 3) := by decide +kernel
theorem d_Mo_useOf_30 : decode prog_8_method_24_code 30 = .ok (.iload_n 2, 1) := by decide +kernel
theorem d_Mo_useOf_31 : decode prog_8_method_24_code 31 = .ok (.iaload, 1) := by decide +kernel
theorem d_Mo_useOf_32 : decode prog_8_method_24_code 32 = .ok (.iconst 4, 1) := by decide +kernel
theorem d_Mo_useOf_33 : decode prog_8_method_24_code 33 = .ok (.iload_n 1, 1) := by decide +kernel
theorem d_Mo_useOf_34 : decode prog_8_method_24_code 34 = .ok (.iadd, 1) := by decide +kernel
theorem d_Mo_useOf_35 : decode prog_8_method_24_code 35 = .ok (.if_icmp .ne 11, 3) := by decide +kernel
theorem d_Mo_useOf_38 : decode prog_8_method_24_code 38 = .ok (.aload_n 0, 1) := by decide +kernel
theorem d_Mo_useOf_39 : decode prog_8_method_24_code 39 = .ok (.iload_n 1, 1) := by decide +kernel
theorem d_Mo_useOf_40 : decode prog_8_method_24_code 40 = .ok (.invokevirtual 146, 3) := by decide +kernel
theorem d_Mo_useOf_43 : decode prog_8_method_24_code 43 = .ok (.goto 29, 3) := by decide +kernel
theorem d_Mo_useOf_46 : decode prog_8_method_24_code 46 = .ok (.aload_n 0, 1) := by decide +kernel
theorem d_Mo_useOf_47 : decode prog_8_method_24_code 47 = .ok (.getfield 56, 3) := by decide +kernel
theorem d_Mo_useOf_50 : decode prog_8_method_24_code 50 = .ok (.iload_n 2, 1) := by decide +kernel
theorem d_Mo_useOf_51 : decode prog_8_method_24_code 51 = .ok (.iaload, 1) := by decide +kernel
theorem d_Mo_useOf_52 : decode prog_8_method_24_code 52 = .ok (.iconst 2, 1) := by decide +kernel
theorem d_Mo_useOf_53 : decode prog_8_method_24_code 53 = .ok (.if_icmp .ne 13, 3) := by decide +kernel
theorem d_Mo_useOf_56 : decode prog_8_method_24_code 56 = .ok (.aload_n 0, 1) := by decide +kernel
theorem d_Mo_useOf_57 : decode prog_8_method_24_code 57 = .ok (.iload_n 1, 1) := by decide +kernel
theorem d_Mo_useOf_58 : decode prog_8_method_24_code 58 = .ok (.bipush 21, 2) := by decide +kernel
theorem d_Mo_useOf_60 : decode prog_8_method_24_code 60 = .ok (.invokevirtual 142, 3) := by decide +kernel
theorem d_Mo_useOf_63 : decode prog_8_method_24_code 63 = .ok (.goto 9, 3) := by decide +kernel
theorem d_Mo_useOf_66 : decode prog_8_method_24_code 66 = .ok (.aload_n 0, 1) := by decide +kernel
theorem d_Mo_useOf_67 : decode prog_8_method_24_code 67 = .ok (.iload_n 1, 1) := by decide +kernel
theorem d_Mo_useOf_68 : decode prog_8_method_24_code 68 = .ok (.iload_n 2, 1) := by decide +kernel
theorem d_Mo_useOf_69 : decode prog_8_method_24_code 69 = .ok (.invokevirtual 149, 3) := by decide +kernel
theorem d_Mo_useOf_72 : decode prog_8_method_24_code 72 = .ok (.return_, 1) := by decide +kernel
def f_Mo_useOf_J38 (M : cs_Mem) (j : Nat) (y1 : Int32) : cs_Mem :=
  cs_bd (f_Mo_madeUse M j y1) fun (u15 : cs_Mem) =>
  u15
def pre_Mo_useOf_J38 (M : cs_Mem) (j : Nat) (y1 : Int32) : Prop :=
  (pre_Mo_madeUse M j y1) ∧
  True
def f_Mo_useOf (M : cs_Mem) (j : Nat) (x1 : Int32) (x2 : Int32) : cs_Mem :=
  if x2 < 100 then
    if (M 78 x2.toNatClampNeg) = 1 then
      f_Mo_useOf_J38 M j x1
    else
      if (M 78 x2.toNatClampNeg) = (4 + x1) then
        f_Mo_useOf_J38 M j x1
      else
        if (M 78 x2.toNatClampNeg) = 2 then
          cs_bd (f_Mo_come M j x1 21) fun (u11 : cs_Mem) =>
          u11
        else
          cs_bd (f_Mo_enter M j x1 x2) fun (u9 : cs_Mem) =>
          u9
  else
    cs_bd (f_Mo_come M j x1 20) fun (u13 : cs_Mem) =>
    u13
def pre_Mo_useOf (M : cs_Mem) (j : Nat) (x1 : Int32) (x2 : Int32) : Prop :=
  (x2 < 100 →
    (vp_in x2 (cs_ln M 78)) ∧
    ((M 78 x2.toNatClampNeg) = 1 →
      pre_Mo_useOf_J38 M j x1
    ) ∧ (¬ ((M 78 x2.toNatClampNeg) = 1) →
      (vp_in x2 (cs_ln M 78)) ∧
      ((M 78 x2.toNatClampNeg) = (4 + x1) →
        pre_Mo_useOf_J38 M j x1
      ) ∧ (¬ ((M 78 x2.toNatClampNeg) = (4 + x1)) →
        (vp_in x2 (cs_ln M 78)) ∧
        ((M 78 x2.toNatClampNeg) = 2 →
          (pre_Mo_come M j x1 21) ∧
          True
        ) ∧ (¬ ((M 78 x2.toNatClampNeg) = 2) →
          (pre_Mo_enter M j x1 x2) ∧
          True
        )
      )
    )
  ) ∧ (¬ (x2 < 100) →
    (pre_Mo_come M j x1 20) ∧
    True
  )
set_option maxHeartbeats 4000000 in
set_option maxRecDepth 100000 in
theorem w_Mo_useOf_J38 {p : Program} {l : Launch} {e : Env} {s : State} {m : MethodId} {args : Array Value} {below : List Frame} {meth : Method} {c : Code} {D : va_G} {cA : Nat → ClassId} {A : Nat → Prop} {ad : Nat → Nat} {F : cs_Mem} (hC : cs_Ctx p s m args c prog_8_method_24_code 3 "ClassStarterModel" D cA A) (hr : meth.sig.returnType = none) (hlk : meth.locks = false) : ∀ (M : cs_Mem) (j : Nat) (y1 : Int32) (H : Heap) (locs : List Loc) (ls : Array Slot), cs_Wd D cA ad M A s H locs → lv_has ls 3 [(0, .ref (ad j)), (1, .int y1)] → cs_is 5 j → pre_Mo_useOf_J38 M j y1 → F = f_Mo_useOf_J38 M j y1 → W p l e ({ frames := 4, cells := 0, slots := 0, locals := 94 }) s m args below meth c H locs 0 0 (MQ below (cs_Qv D cA ad F A) args s 0 0 A) (F0 m 38 ls []) := by
  have hx := hC.1
  have hb := hC.2.1
  intro M j y1 H locs ls hw hl g0 hp hf
  unfold f_Mo_useOf_J38 at hf
  unfold pre_Mo_useOf_J38 at hp
  refine lv_aload_n hx hb d_Mo_useOf_38 rfl (lv_at hl 0 rfl) ?_
  refine lv_iload_n hx hb d_Mo_useOf_39 rfl (lv_at hl 1 rfl) ?_
  have o14 := hp.1
  have hp := hp.2
  refine cs_ret_v hC hw (cs_runV (As := [.int y1]) (rest := []) hC hw g0.2 (ci := 5) rfl rfl (cs_sg_is g0) (c_Mo_madeUse l D cA ad M j g0 y1 o14 _) rfl rfl cw_Mo_146 ⟨Nat.le_of_ble_eq_true rfl, Nat.le_of_ble_eq_true rfl⟩ hl.1 rfl rfl (Nat.le_of_ble_eq_true rfl) d_Mo_useOf_40 ⟨Nat.zero_le _, Nat.zero_le _⟩) (fun u15 H locs eu15 hw => ?_)
  have hf := cs_bdE eu15 hf
  refine lv_goto (tgt := 72) hx hb d_Mo_useOf_43 (by decide) ?_
  exact cs_vret hC hw hr hlk hf d_Mo_useOf_72
set_option maxHeartbeats 4000000 in
set_option maxRecDepth 100000 in
theorem c_Mo_useOf (l : Launch) (D : va_G) (cA : Nat → ClassId) (ad : Nat → Nat) (M : cs_Mem) (j : Nat) (hj : cs_is 5 j) (x1 : Int32) (x2 : Int32) (hp : pre_Mo_useOf M j x1 x2) : cs_Cv l ⟨"ClassStarterModel", "useOf", "(II)V"⟩ prog_8_method_24_code 3 none ({ frames := 4, cells := 0, slots := 0, locals := 94 }) D cA ad M [.ref (ad j), .int x1, .int x2] (f_Mo_useOf M j x1 x2) := by
  refine cs_entry (by decide) (Nat.le_of_ble_eq_true rfl) (fun p e s m below meth c A ls hC hr hlk _ hw hl => ?_)
  have hx := hC.1
  have hb := hC.2.1
  have hl : lv_has ls 3 [(0, .ref (ad j)), (1, .int x1), (2, .int x2)] := hl
  generalize hF : f_Mo_useOf M j x1 x2 = F
  have hf := hF.symm
  unfold f_Mo_useOf at hf
  unfold pre_Mo_useOf at hp
  refine lv_iload_n hx hb d_Mo_useOf_0 rfl (lv_at hl 2 rfl) ?_
  refine lv_bipush (v := 100) hx hb d_Mo_useOf_1 (by decide) ?_
  refine lv_icmp_lt (tgt := 16) hx hb d_Mo_useOf_3 (by decide) (fun c1 => ?_) (fun c1 => ?_)
  · have hp := hp.1 c1
    have hf := hf.trans (if_pos c1)
    refine lv_aload_n hx hb d_Mo_useOf_16 rfl (lv_at hl 0 rfl) ?_
    refine gf_Mo_state hC hw hj wd_567 d_Mo_useOf_17 ?_
    refine lv_iload_n hx hb d_Mo_useOf_20 rfl (lv_at hl 2 rfl) ?_
    have o2 := hp.1
    have hp := hp.2
    refine cs_iald hC hw is_78 o2 d_Mo_useOf_21 ?_
    refine lv_iconst (v := 1) hx hb d_Mo_useOf_22 (by decide) ?_
    refine lv_icmp_eq (tgt := 38) hx hb d_Mo_useOf_23 (by decide) (fun c3 => ?_) (fun c3 => ?_)
    · have hp := hp.1 c3
      have hf := hf.trans (if_pos c3)
      exact w_Mo_useOf_J38 hC hr hlk M j x1 _ _ ls hw (lv_sub hl [0, 1] rfl) hj hp hf
    · have hp := hp.2 c3
      have hf := hf.trans (if_neg c3)
      refine lv_aload_n hx hb d_Mo_useOf_26 rfl (lv_at hl 0 rfl) ?_
      refine gf_Mo_state hC hw hj wd_567 d_Mo_useOf_27 ?_
      refine lv_iload_n hx hb d_Mo_useOf_30 rfl (lv_at hl 2 rfl) ?_
      have o4 := hp.1
      have hp := hp.2
      refine cs_iald hC hw is_78 o4 d_Mo_useOf_31 ?_
      refine lv_iconst (v := 4) hx hb d_Mo_useOf_32 (by decide) ?_
      refine lv_iload_n hx hb d_Mo_useOf_33 rfl (lv_at hl 1 rfl) ?_
      refine lv_iadd hx hb d_Mo_useOf_34 ?_
      refine lv_icmp_ne (tgt := 46) hx hb d_Mo_useOf_35 (by decide) (fun c5 => ?_) (fun c5 => ?_)
      · have hp := hp.2 c5
        have hf := hf.trans (if_neg c5)
        refine lv_aload_n hx hb d_Mo_useOf_46 rfl (lv_at hl 0 rfl) ?_
        refine gf_Mo_state hC hw hj wd_567 d_Mo_useOf_47 ?_
        refine lv_iload_n hx hb d_Mo_useOf_50 rfl (lv_at hl 2 rfl) ?_
        have o6 := hp.1
        have hp := hp.2
        refine cs_iald hC hw is_78 o6 d_Mo_useOf_51 ?_
        refine lv_iconst (v := 2) hx hb d_Mo_useOf_52 (by decide) ?_
        refine lv_icmp_ne (tgt := 66) hx hb d_Mo_useOf_53 (by decide) (fun c7 => ?_) (fun c7 => ?_)
        · have hp := hp.2 c7
          have hf := hf.trans (if_neg c7)
          refine lv_aload_n hx hb d_Mo_useOf_66 rfl (lv_at hl 0 rfl) ?_
          refine lv_iload_n hx hb d_Mo_useOf_67 rfl (lv_at hl 1 rfl) ?_
          refine lv_iload_n hx hb d_Mo_useOf_68 rfl (lv_at hl 2 rfl) ?_
          have o8 := hp.1
          have hp := hp.2
          refine cs_ret_v hC hw (cs_runV (As := [.int x1, .int x2]) (rest := []) hC hw hj.2 (ci := 5) rfl rfl (cs_sg_is hj) (c_Mo_enter l D cA ad M j hj x1 x2 o8 _) rfl rfl cw_Mo_149 ⟨Nat.le_of_ble_eq_true rfl, Nat.le_of_ble_eq_true rfl⟩ hl.1 rfl rfl (Nat.le_of_ble_eq_true rfl) d_Mo_useOf_69 ⟨Nat.zero_le _, Nat.zero_le _⟩) (fun u9 H locs eu9 hw => ?_)
          have hf := cs_bdE eu9 hf
          exact cs_vret hC hw hr hlk hf d_Mo_useOf_72
        · have hp := hp.1 c7
          have hf := hf.trans (if_pos c7)
          refine lv_aload_n hx hb d_Mo_useOf_56 rfl (lv_at hl 0 rfl) ?_
          refine lv_iload_n hx hb d_Mo_useOf_57 rfl (lv_at hl 1 rfl) ?_
          refine lv_bipush (v := 21) hx hb d_Mo_useOf_58 (by decide) ?_
          have o10 := hp.1
          have hp := hp.2
          refine cs_ret_v hC hw (cs_runV (As := [.int x1, .int 21]) (rest := []) hC hw hj.2 (ci := 5) rfl rfl (cs_sg_is hj) (c_Mo_come l D cA ad M j hj x1 21 o10 _) rfl rfl cw_Mo_142 ⟨Nat.le_of_ble_eq_true rfl, Nat.le_of_ble_eq_true rfl⟩ hl.1 rfl rfl (Nat.le_of_ble_eq_true rfl) d_Mo_useOf_60 ⟨Nat.zero_le _, Nat.zero_le _⟩) (fun u11 H locs eu11 hw => ?_)
          have hf := cs_bdE eu11 hf
          refine lv_goto (tgt := 72) hx hb d_Mo_useOf_63 (by decide) ?_
          exact cs_vret hC hw hr hlk hf d_Mo_useOf_72
      · have hp := hp.1 c5
        have hf := hf.trans (if_pos c5)
        exact w_Mo_useOf_J38 hC hr hlk M j x1 _ _ ls hw (lv_sub hl [0, 1] rfl) hj hp hf
  · have hp := hp.2 c1
    have hf := hf.trans (if_neg c1)
    refine lv_aload_n hx hb d_Mo_useOf_6 rfl (lv_at hl 0 rfl) ?_
    refine lv_iload_n hx hb d_Mo_useOf_7 rfl (lv_at hl 1 rfl) ?_
    refine lv_bipush (v := 20) hx hb d_Mo_useOf_8 (by decide) ?_
    have o12 := hp.1
    have hp := hp.2
    refine cs_ret_v hC hw (cs_runV (As := [.int x1, .int 20]) (rest := []) hC hw hj.2 (ci := 5) rfl rfl (cs_sg_is hj) (c_Mo_come l D cA ad M j hj x1 20 o12 _) rfl rfl cw_Mo_142 ⟨Nat.le_of_ble_eq_true rfl, Nat.le_of_ble_eq_true rfl⟩ hl.1 rfl rfl (Nat.le_of_ble_eq_true rfl) d_Mo_useOf_10 ⟨Nat.zero_le _, Nat.zero_le _⟩) (fun u13 H locs eu13 hw => ?_)
    have hf := cs_bdE eu13 hf
    refine lv_goto (tgt := 72) hx hb d_Mo_useOf_13 (by decide) ?_
    exact cs_vret hC hw hr hlk hf d_Mo_useOf_72
theorem d_Mo_action_0 : decode prog_8_method_26_code 0 = .ok (.aload_n 0, 1) := by decide +kernel
theorem d_Mo_action_1 : decode prog_8_method_26_code 1 = .ok (.iload_n 1, 1) := by decide +kernel
theorem d_Mo_action_2 : decode prog_8_method_26_code 2 = .ok (.invokevirtual 113, 3) := by decide +kernel
theorem d_Mo_action_5 : decode prog_8_method_26_code 5 = .ok (.istore_n 2, 1) := by decide +kernel
theorem d_Mo_action_6 : decode prog_8_method_26_code 6 = .ok (.aload_n 0, 1) := by decide +kernel
theorem d_Mo_action_7 : decode prog_8_method_26_code 7 = .ok (.iload_n 1, 1) := by decide +kernel
theorem d_Mo_action_8 : decode prog_8_method_26_code 8 = .ok (.aload_n 0, 1) := by decide +kernel
theorem d_Mo_action_9 : decode prog_8_method_26_code 9 = .ok (.getfield 65, 3) := by decide +kernel
theorem d_Mo_action_12 : decode prog_8_method_26_code 12 = .ok (.iload_n 2, 1) := by decide +kernel
theorem d_Mo_action_13 : decode prog_8_method_26_code 13 = .ok (.iaload, 1) := by decide +kernel
theorem d_Mo_action_14 : decode prog_8_method_26_code 14 = .ok (.invokevirtual 120, 3) := by decide +kernel
theorem d_Mo_action_17 : decode prog_8_method_26_code 17 = .ok (.istore_n 3, 1) := by decide +kernel
theorem d_Mo_action_18 : decode prog_8_method_26_code 18 = .ok (.aload_n 0, 1) := by decide +kernel
theorem d_Mo_action_19 : decode prog_8_method_26_code 19 = .ok (.getfield 38, 3) := by decide +kernel
theorem d_Mo_action_22 : decode prog_8_method_26_code 22 = .ok (.iload_n 3, 1) := by decide +kernel
theorem d_Mo_action_23 : decode prog_8_method_26_code 23 = .ok (.iaload, 1) := by decide +kernel
theorem d_Mo_action_24 : decode prog_8_method_26_code 24 = .ok (.iconst 3, 1) := by decide +kernel
theorem d_Mo_action_25 : decode prog_8_method_26_code 25 = .ok (.if_icmp .eq 13, 3) := by decide +kernel
theorem d_Mo_action_28 : decode prog_8_method_26_code 28 = .ok (.aload_n 0, 1) := by decide +kernel
theorem d_Mo_action_29 : decode prog_8_method_26_code 29 = .ok (.getfield 38, 3) := by decide +kernel
theorem d_Mo_action_32 : decode prog_8_method_26_code 32 = .ok (.iload_n 3, 1) := by decide +kernel
theorem d_Mo_action_33 : decode prog_8_method_26_code 33 = .ok (.iaload, 1) := by decide +kernel
theorem d_Mo_action_34 : decode prog_8_method_26_code 34 = .ok (.iconst 4, 1) := by decide +kernel
theorem d_Mo_action_35 : decode prog_8_method_26_code 35 = .ok (.if_icmp .ne 37, 3) := by decide +kernel
theorem d_Mo_action_38 : decode prog_8_method_26_code 38 = .ok (.aload_n 0, 1) := by decide +kernel
theorem d_Mo_action_39 : decode prog_8_method_26_code 39 = .ok (.iload_n 1, 1) := by decide +kernel
theorem d_Mo_action_40 : decode prog_8_method_26_code 40 = .ok (.aload_n 0, 1) := by decide +kernel
theorem d_Mo_action_41 : decode prog_8_method_26_code 41 = .ok (.getfield 38, 3) := by decide +kernel
theorem d_Mo_action_44 : decode prog_8_method_26_code 44 = .ok (.iload_n 3, 1) := by decide +kernel
theorem d_Mo_action_45 : decode prog_8_method_26_code 45 = .ok (.iaload, 1) := by decide +kernel
theorem d_Mo_action_46 : decode prog_8_method_26_code 46 = .ok (.iconst 3, 1) := by decide +kernel
theorem d_Mo_action_47 : decode prog_8_method_26_code 47 = .ok (.if_icmp .ne 12, 3) := by decide +kernel
theorem d_Mo_action_50 : decode prog_8_method_26_code 50 = .ok (.aload_n 0, 1) := by decide +kernel
theorem d_Mo_action_51 : decode prog_8_method_26_code 51 = .ok (.getfield 41, 3) := by decide +kernel
theorem d_Mo_action_54 : decode prog_8_method_26_code 54 = .ok (.iload_n 3, 1) := by decide +kernel
theorem d_Mo_action_55 : decode prog_8_method_26_code 55 = .ok (.iaload, 1) := by decide +kernel
theorem d_Mo_action_56 : decode prog_8_method_26_code 56 = .ok (.goto 12, 3) := by decide +kernel
theorem d_Mo_action_59 : decode prog_8_method_26_code 59 = .ok (.bipush 10, 2) := by decide +kernel
theorem d_Mo_action_61 : decode prog_8_method_26_code 61 = .ok (.aload_n 0, 1) := by decide +kernel
theorem d_Mo_action_62 : decode prog_8_method_26_code 62 = .ok (.getfield 41, 3) := by decide +kernel
theorem d_Mo_action_65 : decode prog_8_method_26_code 65 = .ok (.iload_n 3, 1) := by decide +kernel
theorem d_Mo_action_66 : decode prog_8_method_26_code 66 = .ok (.iaload, 1) := by decide +kernel
theorem d_Mo_action_67 : decode prog_8_method_26_code 67 = .ok (.iadd, 1) := by decide +kernel
theorem d_Mo_action_68 : decode prog_8_method_26_code 68 = .ok (.invokevirtual 142, 3) := by decide +kernel
theorem d_Mo_action_71 : decode prog_8_method_26_code 71 = .ok (.return_, 1) := by decide +kernel
theorem d_Mo_action_72 : decode prog_8_method_26_code 72 = .ok (.aload_n 0, 1) := by decide +kernel
theorem d_Mo_action_73 : decode prog_8_method_26_code 73 = .ok (.getfield 38, 3) := by decide +kernel
theorem d_Mo_action_76 : decode prog_8_method_26_code 76 = .ok (.iload_n 3, 1) := by decide +kernel
theorem d_Mo_action_77 : decode prog_8_method_26_code 77 = .ok (.iaload, 1) := by decide +kernel
theorem d_Mo_action_78 : decode prog_8_method_26_code 78 = .ok (.iconst 1, 1) := by decide +kernel
theorem d_Mo_action_79 : decode prog_8_method_26_code 79 = .ok (.if_icmp .ne 22, 3) := by decide +kernel
theorem d_Mo_action_82 : decode prog_8_method_26_code 82 = .ok (.aload_n 0, 1) := by decide +kernel
theorem d_Mo_action_83 : decode prog_8_method_26_code 83 = .ok (.getfield 59, 3) := by decide +kernel
theorem d_Mo_action_86 : decode prog_8_method_26_code 86 = .ok (.iconst 2, 1) := by decide +kernel
theorem d_Mo_action_87 : decode prog_8_method_26_code 87 = .ok (.aload_n 0, 1) := by decide +kernel
theorem d_Mo_action_88 : decode prog_8_method_26_code 88 = .ok (.getfield 62, 3) := by decide +kernel
theorem d_Mo_action_91 : decode prog_8_method_26_code 91 = .ok (.iload_n 2, 1) := by decide +kernel
theorem d_Mo_action_92 : decode prog_8_method_26_code 92 = .ok (.iaload, 1) := by decide +kernel
theorem d_Mo_action_93 : decode prog_8_method_26_code 93 = .ok (.imul, 1) := by decide +kernel
theorem d_Mo_action_94 : decode prog_8_method_26_code 94 = .ok (.aload_n 0, 1) := by decide +kernel
theorem d_Mo_action_95 : decode prog_8_method_26_code 95 = .ok (.getfield 44, 3) := by decide +kernel
theorem d_Mo_action_98 : decode prog_8_method_26_code 98 = .ok (.iload_n 3, 1) := by decide +kernel
theorem d_Mo_action_99 : decode prog_8_method_26_code 99 = .ok (.iaload, 1) := by decide +kernel
theorem d_Mo_action_100 : decode prog_8_method_26_code 100 = .ok (.iastore, 1) := by decide +kernel
theorem d_Mo_action_101 : decode prog_8_method_26_code 101 = .ok (.aload_n 0, 1) := by decide +kernel
theorem d_Mo_action_102 : decode prog_8_method_26_code 102 = .ok (.getfield 38, 3) := by decide +kernel
theorem d_Mo_action_105 : decode prog_8_method_26_code 105 = .ok (.iload_n 3, 1) := by decide +kernel
theorem d_Mo_action_106 : decode prog_8_method_26_code 106 = .ok (.iaload, 1) := by decide +kernel
theorem d_Mo_action_107 : decode prog_8_method_26_code 107 = .ok (.iconst 2, 1) := by decide +kernel
theorem d_Mo_action_108 : decode prog_8_method_26_code 108 = .ok (.if_icmp .ne 36, 3) := by decide +kernel
theorem d_Mo_action_111 : decode prog_8_method_26_code 111 = .ok (.aload_n 0, 1) := by decide +kernel
theorem d_Mo_action_112 : decode prog_8_method_26_code 112 = .ok (.getfield 59, 3) := by decide +kernel
theorem d_Mo_action_115 : decode prog_8_method_26_code 115 = .ok (.iconst 2, 1) := by decide +kernel
theorem d_Mo_action_116 : decode prog_8_method_26_code 116 = .ok (.aload_n 0, 1) := by decide +kernel
theorem d_Mo_action_117 : decode prog_8_method_26_code 117 = .ok (.getfield 62, 3) := by decide +kernel
theorem d_Mo_action_120 : decode prog_8_method_26_code 120 = .ok (.iload_n 2, 1) := by decide +kernel
theorem d_Mo_action_121 : decode prog_8_method_26_code 121 = .ok (.iaload, 1) := by decide +kernel
theorem d_Mo_action_122 : decode prog_8_method_26_code 122 = .ok (.imul, 1) := by decide +kernel
theorem d_Mo_action_123 : decode prog_8_method_26_code 123 = .ok (.aload_n 0, 1) := by decide +kernel
theorem d_Mo_action_124 : decode prog_8_method_26_code 124 = .ok (.getfield 59, 3) := by decide +kernel
theorem d_Mo_action_127 : decode prog_8_method_26_code 127 = .ok (.iconst 2, 1) := by decide +kernel
theorem d_Mo_action_128 : decode prog_8_method_26_code 128 = .ok (.aload_n 0, 1) := by decide +kernel
theorem d_Mo_action_129 : decode prog_8_method_26_code 129 = .ok (.getfield 44, 3) := by decide +kernel
theorem d_Mo_action_132 : decode prog_8_method_26_code 132 = .ok (.iload_n 3, 1) := by decide +kernel
theorem d_Mo_action_133 : decode prog_8_method_26_code 133 = .ok (.iaload, 1) := by decide +kernel
theorem d_Mo_action_134 : decode prog_8_method_26_code 134 = .ok (.imul, 1) := by decide +kernel
theorem d_Mo_action_135 : decode prog_8_method_26_code 135 = .ok (.aload_n 0, 1) := by decide +kernel
theorem d_Mo_action_136 : decode prog_8_method_26_code 136 = .ok (.getfield 41, 3) := by decide +kernel
theorem d_Mo_action_139 : decode prog_8_method_26_code 139 = .ok (.iload_n 3, 1) := by decide +kernel
theorem d_Mo_action_140 : decode prog_8_method_26_code 140 = .ok (.iaload, 1) := by decide +kernel
theorem d_Mo_action_141 : decode prog_8_method_26_code 141 = .ok (.iadd, 1) := by decide +kernel
theorem d_Mo_action_142 : decode prog_8_method_26_code 142 = .ok (.iaload, 1) := by decide +kernel
theorem d_Mo_action_143 : decode prog_8_method_26_code 143 = .ok (.iastore, 1) := by decide +kernel
theorem d_Mo_action_144 : decode prog_8_method_26_code 144 = .ok (.aload_n 0, 1) := by decide +kernel
theorem d_Mo_action_145 : decode prog_8_method_26_code 145 = .ok (.getfield 38, 3) := by decide +kernel
theorem d_Mo_action_148 : decode prog_8_method_26_code 148 = .ok (.iload_n 3, 1) := by decide +kernel
theorem d_Mo_action_149 : decode prog_8_method_26_code 149 = .ok (.iaload, 1) := by decide +kernel
theorem d_Mo_action_150 : decode prog_8_method_26_code 150 = .ok (.iconst 5, 1) := by decide +kernel
theorem d_Mo_action_151 : decode prog_8_method_26_code 151 = .ok (.if_icmp .ne 13, 3) := by decide +kernel
theorem d_Mo_action_154 : decode prog_8_method_26_code 154 = .ok (.aload_n 0, 1) := by decide +kernel
theorem d_Mo_action_155 : decode prog_8_method_26_code 155 = .ok (.aload_n 0, 1) := by decide +kernel
theorem d_Mo_action_156 : decode prog_8_method_26_code 156 = .ok (.getfield 41, 3) := by decide +kernel
theorem d_Mo_action_159 : decode prog_8_method_26_code 159 = .ok (.iload_n 3, 1) := by decide +kernel
theorem d_Mo_action_160 : decode prog_8_method_26_code 160 = .ok (.iaload, 1) := by decide +kernel
theorem d_Mo_action_161 : decode prog_8_method_26_code 161 = .ok (.invokevirtual 136, 3) := by decide +kernel
theorem d_Mo_action_164 : decode prog_8_method_26_code 164 = .ok (.aload_n 0, 1) := by decide +kernel
theorem d_Mo_action_165 : decode prog_8_method_26_code 165 = .ok (.getfield 65, 3) := by decide +kernel
theorem d_Mo_action_168 : decode prog_8_method_26_code 168 = .ok (.iload_n 2, 1) := by decide +kernel
theorem d_Mo_action_169 : decode prog_8_method_26_code 169 = .ok (.dup2, 1) := by decide +kernel
theorem d_Mo_action_170 : decode prog_8_method_26_code 170 = .ok (.iaload, 1) := by decide +kernel
theorem d_Mo_action_171 : decode prog_8_method_26_code 171 = .ok (.iconst 1, 1) := by decide +kernel
theorem d_Mo_action_172 : decode prog_8_method_26_code 172 = .ok (.iadd, 1) := by decide +kernel
theorem d_Mo_action_173 : decode prog_8_method_26_code 173 = .ok (.iastore, 1) := by decide +kernel
theorem d_Mo_action_174 : decode prog_8_method_26_code 174 = .ok (.aload_n 0, 1) := by decide +kernel
theorem d_Mo_action_175 : decode prog_8_method_26_code 175 = .ok (.iload_n 1, 1) := by decide +kernel
theorem d_Mo_action_176 : decode prog_8_method_26_code 176 = .ok (.invokevirtual 105, 3) := by decide +kernel
theorem d_Mo_action_179 : decode prog_8_method_26_code 179 = .ok (.return_, 1) := by decide +kernel
def f_Mo_action_J144 (M : cs_Mem) (j : Nat) (y1 : Int32) (y2 : Int32) (y3 : Int32) : cs_Mem :=
  if (M 72 y3.toNatClampNeg) = 5 then
    cs_bd (f_Mo_note M j (M 73 y3.toNatClampNeg)) fun (u41 : cs_Mem) =>
    cs_bd (cs_up u41 81 (upd (u41 81) y2.toNatClampNeg ((u41 81 y2.toNatClampNeg) + 1))) fun (N44 : cs_Mem) =>
    cs_bd (f_Mo_finish N44 j y1) fun (u46 : cs_Mem) =>
    u46
  else
    cs_bd (cs_up M 81 (upd (M 81) y2.toNatClampNeg ((M 81 y2.toNatClampNeg) + 1))) fun (N36 : cs_Mem) =>
    cs_bd (f_Mo_finish N36 j y1) fun (u38 : cs_Mem) =>
    u38
def pre_Mo_action_J144 (M : cs_Mem) (j : Nat) (y1 : Int32) (y2 : Int32) (y3 : Int32) : Prop :=
  (vp_in y3 (cs_ln M 72)) ∧
  ((M 72 y3.toNatClampNeg) = 5 →
    (vp_in y3 (cs_ln M 73)) ∧
    (pre_Mo_note M j (M 73 y3.toNatClampNeg)) ∧
    cs_bd (f_Mo_note M j (M 73 y3.toNatClampNeg)) fun (u41 : cs_Mem) =>
    (vp_in y2 (cs_ln u41 81)) ∧
    (vp_in y2 (cs_ln u41 81)) ∧
    cs_bd (cs_up u41 81 (upd (u41 81) y2.toNatClampNeg ((u41 81 y2.toNatClampNeg) + 1))) fun (N44 : cs_Mem) =>
    (pre_Mo_finish N44 j y1) ∧
    True
  ) ∧ (¬ ((M 72 y3.toNatClampNeg) = 5) →
    (vp_in y2 (cs_ln M 81)) ∧
    (vp_in y2 (cs_ln M 81)) ∧
    cs_bd (cs_up M 81 (upd (M 81) y2.toNatClampNeg ((M 81 y2.toNatClampNeg) + 1))) fun (N36 : cs_Mem) =>
    (pre_Mo_finish N36 j y1) ∧
    True
  )
def f_Mo_action_J101 (M : cs_Mem) (j : Nat) (y1 : Int32) (y2 : Int32) (y3 : Int32) : cs_Mem :=
  if (M 72 y3.toNatClampNeg) = 2 then
    cs_bd (cs_up M 79 (upd (M 79) (2 * (M 80 y2.toNatClampNeg)).toNatClampNeg (M 79 ((2 * (M 74 y3.toNatClampNeg)) + (M 73 y3.toNatClampNeg)).toNatClampNeg))) fun (N31 : cs_Mem) =>
    f_Mo_action_J144 N31 j y1 y2 y3
  else
    f_Mo_action_J144 M j y1 y2 y3
def pre_Mo_action_J101 (M : cs_Mem) (j : Nat) (y1 : Int32) (y2 : Int32) (y3 : Int32) : Prop :=
  (vp_in y3 (cs_ln M 72)) ∧
  ((M 72 y3.toNatClampNeg) = 2 →
    (vp_in y2 (cs_ln M 80)) ∧
    (vp_in y3 (cs_ln M 74)) ∧
    (vp_in y3 (cs_ln M 73)) ∧
    (vp_in ((2 * (M 74 y3.toNatClampNeg)) + (M 73 y3.toNatClampNeg)) (cs_ln M 79)) ∧
    (vp_in (2 * (M 80 y2.toNatClampNeg)) (cs_ln M 79)) ∧
    cs_bd (cs_up M 79 (upd (M 79) (2 * (M 80 y2.toNatClampNeg)).toNatClampNeg (M 79 ((2 * (M 74 y3.toNatClampNeg)) + (M 73 y3.toNatClampNeg)).toNatClampNeg))) fun (N31 : cs_Mem) =>
    pre_Mo_action_J144 N31 j y1 y2 y3
  ) ∧ (¬ ((M 72 y3.toNatClampNeg) = 2) →
    pre_Mo_action_J144 M j y1 y2 y3
  )
def f_Mo_action_J38 (M : cs_Mem) (j : Nat) (y1 : Int32) (y3 : Int32) : cs_Mem :=
  if (M 72 y3.toNatClampNeg) = 3 then
    cs_bd (f_Mo_come M j y1 (M 73 y3.toNatClampNeg)) fun (u23 : cs_Mem) =>
    u23
  else
    cs_bd (f_Mo_come M j y1 (10 + (M 73 y3.toNatClampNeg))) fun (u20 : cs_Mem) =>
    u20
def pre_Mo_action_J38 (M : cs_Mem) (j : Nat) (y1 : Int32) (y3 : Int32) : Prop :=
  (vp_in y3 (cs_ln M 72)) ∧
  ((M 72 y3.toNatClampNeg) = 3 →
    (vp_in y3 (cs_ln M 73)) ∧
    (pre_Mo_come M j y1 (M 73 y3.toNatClampNeg)) ∧
    True
  ) ∧ (¬ ((M 72 y3.toNatClampNeg) = 3) →
    (vp_in y3 (cs_ln M 73)) ∧
    (pre_Mo_come M j y1 (10 + (M 73 y3.toNatClampNeg))) ∧
    True
  )
def f_Mo_action (M : cs_Mem) (j : Nat) (x1 : Int32) : cs_Mem :=
  cs_bd (f_Mo_top M j x1) fun (r2 : Int32) =>
  cs_bd (f_Mo_actionAt M j x1 (M 81 r2.toNatClampNeg)) fun (r5 : Int32) =>
  if (M 72 r5.toNatClampNeg) = 3 then
    f_Mo_action_J38 M j x1 r5
  else
    if (M 72 r5.toNatClampNeg) = 4 then
      f_Mo_action_J38 M j x1 r5
    else
      if (M 72 r5.toNatClampNeg) = 1 then
        cs_bd (cs_up M 79 (upd (M 79) (2 * (M 80 r2.toNatClampNeg)).toNatClampNeg (M 74 r5.toNatClampNeg))) fun (N15 : cs_Mem) =>
        f_Mo_action_J101 N15 j x1 r2 r5
      else
        f_Mo_action_J101 M j x1 r2 r5
def pre_Mo_action (M : cs_Mem) (j : Nat) (x1 : Int32) : Prop :=
  (pre_Mo_top M j x1) ∧
  cs_bd (f_Mo_top M j x1) fun (r2 : Int32) =>
  (vp_in r2 (cs_ln M 81)) ∧
  (pre_Mo_actionAt M j x1 (M 81 r2.toNatClampNeg)) ∧
  cs_bd (f_Mo_actionAt M j x1 (M 81 r2.toNatClampNeg)) fun (r5 : Int32) =>
  (vp_in r5 (cs_ln M 72)) ∧
  ((M 72 r5.toNatClampNeg) = 3 →
    pre_Mo_action_J38 M j x1 r5
  ) ∧ (¬ ((M 72 r5.toNatClampNeg) = 3) →
    (vp_in r5 (cs_ln M 72)) ∧
    ((M 72 r5.toNatClampNeg) = 4 →
      pre_Mo_action_J38 M j x1 r5
    ) ∧ (¬ ((M 72 r5.toNatClampNeg) = 4) →
      (vp_in r5 (cs_ln M 72)) ∧
      ((M 72 r5.toNatClampNeg) = 1 →
        (vp_in r2 (cs_ln M 80)) ∧
        (vp_in r5 (cs_ln M 74)) ∧
        (vp_in (2 * (M 80 r2.toNatClampNeg)) (cs_ln M 79)) ∧
        cs_bd (cs_up M 79 (upd (M 79) (2 * (M 80 r2.toNatClampNeg)).toNatClampNeg (M 74 r5.toNatClampNeg))) fun (N15 : cs_Mem) =>
        pre_Mo_action_J101 N15 j x1 r2 r5
      ) ∧ (¬ ((M 72 r5.toNatClampNeg) = 1) →
        pre_Mo_action_J101 M j x1 r2 r5
      )
    )
  )
set_option maxHeartbeats 4000000 in
set_option maxRecDepth 100000 in
theorem w_Mo_action_J144 {p : Program} {l : Launch} {e : Env} {s : State} {m : MethodId} {args : Array Value} {below : List Frame} {meth : Method} {c : Code} {D : va_G} {cA : Nat → ClassId} {A : Nat → Prop} {ad : Nat → Nat} {F : cs_Mem} (hC : cs_Ctx p s m args c prog_8_method_26_code 4 "ClassStarterModel" D cA A) (hr : meth.sig.returnType = none) (hlk : meth.locks = false) : ∀ (M : cs_Mem) (j : Nat) (y1 : Int32) (y2 : Int32) (y3 : Int32) (H : Heap) (locs : List Loc) (ls : Array Slot), cs_Wd D cA ad M A s H locs → lv_has ls 4 [(0, .ref (ad j)), (1, .int y1), (2, .int y2), (3, .int y3)] → cs_is 5 j → pre_Mo_action_J144 M j y1 y2 y3 → F = f_Mo_action_J144 M j y1 y2 y3 → W p l e ({ frames := 4, cells := 0, slots := 0, locals := 94 }) s m args below meth c H locs 0 0 (MQ below (cs_Qv D cA ad F A) args s 0 0 A) (F0 m 144 ls []) := by
  have hx := hC.1
  have hb := hC.2.1
  intro M j y1 y2 y3 H locs ls hw hl g0 hp hf
  unfold f_Mo_action_J144 at hf
  unfold pre_Mo_action_J144 at hp
  refine lv_aload_n hx hb d_Mo_action_144 rfl (lv_at hl 0 rfl) ?_
  refine gf_Mo_act hC hw g0 wd_559 d_Mo_action_145 ?_
  refine lv_iload_n hx hb d_Mo_action_148 rfl (lv_at hl 3 rfl) ?_
  have o32 := hp.1
  have hp := hp.2
  refine cs_iald hC hw is_72 o32 d_Mo_action_149 ?_
  refine lv_iconst (v := 5) hx hb d_Mo_action_150 (by decide) ?_
  refine lv_icmp_ne (tgt := 164) hx hb d_Mo_action_151 (by decide) (fun c33 => ?_) (fun c33 => ?_)
  · have hp := hp.2 c33
    have hf := hf.trans (if_neg c33)
    refine lv_aload_n hx hb d_Mo_action_164 rfl (lv_at hl 0 rfl) ?_
    refine gf_Mo_part hC hw g0 wd_570 d_Mo_action_165 ?_
    refine lv_iload_n hx hb d_Mo_action_168 rfl (lv_at hl 2 rfl) ?_
    refine lv_dup2_11 hx hb d_Mo_action_169 rfl rfl ?_
    have o34 := hp.1
    have hp := hp.2
    refine cs_iald hC hw is_81 o34 d_Mo_action_170 ?_
    refine lv_iconst (v := 1) hx hb d_Mo_action_171 (by decide) ?_
    refine lv_iadd hx hb d_Mo_action_172 ?_
    have o35 := hp.1
    have hp := hp.2
    refine cs_iast hC hw is_81 o35 d_Mo_action_173 (fun N36 H locs eN36 hw => ?_)
    have hp := cs_bdP eN36 hp
    have hf := cs_bdE eN36 hf
    refine lv_aload_n hx hb d_Mo_action_174 rfl (lv_at hl 0 rfl) ?_
    refine lv_iload_n hx hb d_Mo_action_175 rfl (lv_at hl 1 rfl) ?_
    have o37 := hp.1
    have hp := hp.2
    refine cs_ret_v hC hw (cs_runV (As := [.int y1]) (rest := []) hC hw g0.2 (ci := 5) rfl rfl (cs_sg_is g0) (c_Mo_finish l D cA ad N36 j g0 y1 o37 _) rfl rfl cw_Mo_105 ⟨Nat.le_of_ble_eq_true rfl, Nat.le_of_ble_eq_true rfl⟩ hl.1 rfl rfl (Nat.le_of_ble_eq_true rfl) d_Mo_action_176 ⟨Nat.zero_le _, Nat.zero_le _⟩) (fun u38 H locs eu38 hw => ?_)
    have hf := cs_bdE eu38 hf
    exact cs_vret hC hw hr hlk hf d_Mo_action_179
  · have hp := hp.1 c33
    have hf := hf.trans (if_pos c33)
    refine lv_aload_n hx hb d_Mo_action_154 rfl (lv_at hl 0 rfl) ?_
    refine lv_aload_n hx hb d_Mo_action_155 rfl (lv_at hl 0 rfl) ?_
    refine gf_Mo_actA hC hw g0 wd_560 d_Mo_action_156 ?_
    refine lv_iload_n hx hb d_Mo_action_159 rfl (lv_at hl 3 rfl) ?_
    have o39 := hp.1
    have hp := hp.2
    refine cs_iald hC hw is_73 o39 d_Mo_action_160 ?_
    have o40 := hp.1
    have hp := hp.2
    refine cs_ret_v hC hw (cs_runV (As := [.int (M 73 y3.toNatClampNeg)]) (rest := []) hC hw g0.2 (ci := 5) rfl rfl (cs_sg_is g0) (c_Mo_note l D cA ad M j g0 (M 73 y3.toNatClampNeg) o40 _) rfl rfl cw_Mo_136 ⟨Nat.le_of_ble_eq_true rfl, Nat.le_of_ble_eq_true rfl⟩ hl.1 rfl rfl (Nat.le_of_ble_eq_true rfl) d_Mo_action_161 ⟨Nat.zero_le _, Nat.zero_le _⟩) (fun u41 H locs eu41 hw => ?_)
    have hp := cs_bdP eu41 hp
    have hf := cs_bdE eu41 hf
    refine lv_aload_n hx hb d_Mo_action_164 rfl (lv_at hl 0 rfl) ?_
    refine gf_Mo_part hC hw g0 wd_570 d_Mo_action_165 ?_
    refine lv_iload_n hx hb d_Mo_action_168 rfl (lv_at hl 2 rfl) ?_
    refine lv_dup2_11 hx hb d_Mo_action_169 rfl rfl ?_
    have o42 := hp.1
    have hp := hp.2
    refine cs_iald hC hw is_81 o42 d_Mo_action_170 ?_
    refine lv_iconst (v := 1) hx hb d_Mo_action_171 (by decide) ?_
    refine lv_iadd hx hb d_Mo_action_172 ?_
    have o43 := hp.1
    have hp := hp.2
    refine cs_iast hC hw is_81 o43 d_Mo_action_173 (fun N44 H locs eN44 hw => ?_)
    have hp := cs_bdP eN44 hp
    have hf := cs_bdE eN44 hf
    refine lv_aload_n hx hb d_Mo_action_174 rfl (lv_at hl 0 rfl) ?_
    refine lv_iload_n hx hb d_Mo_action_175 rfl (lv_at hl 1 rfl) ?_
    have o45 := hp.1
    have hp := hp.2
    refine cs_ret_v hC hw (cs_runV (As := [.int y1]) (rest := []) hC hw g0.2 (ci := 5) rfl rfl (cs_sg_is g0) (c_Mo_finish l D cA ad N44 j g0 y1 o45 _) rfl rfl cw_Mo_105 ⟨Nat.le_of_ble_eq_true rfl, Nat.le_of_ble_eq_true rfl⟩ hl.1 rfl rfl (Nat.le_of_ble_eq_true rfl) d_Mo_action_176 ⟨Nat.zero_le _, Nat.zero_le _⟩) (fun u46 H locs eu46 hw => ?_)
    have hf := cs_bdE eu46 hf
    exact cs_vret hC hw hr hlk hf d_Mo_action_179
set_option maxHeartbeats 4000000 in
set_option maxRecDepth 100000 in
theorem w_Mo_action_J101 {p : Program} {l : Launch} {e : Env} {s : State} {m : MethodId} {args : Array Value} {below : List Frame} {meth : Method} {c : Code} {D : va_G} {cA : Nat → ClassId} {A : Nat → Prop} {ad : Nat → Nat} {F : cs_Mem} (hC : cs_Ctx p s m args c prog_8_method_26_code 4 "ClassStarterModel" D cA A) (hr : meth.sig.returnType = none) (hlk : meth.locks = false) : ∀ (M : cs_Mem) (j : Nat) (y1 : Int32) (y2 : Int32) (y3 : Int32) (H : Heap) (locs : List Loc) (ls : Array Slot), cs_Wd D cA ad M A s H locs → lv_has ls 4 [(0, .ref (ad j)), (1, .int y1), (2, .int y2), (3, .int y3)] → cs_is 5 j → pre_Mo_action_J101 M j y1 y2 y3 → F = f_Mo_action_J101 M j y1 y2 y3 → W p l e ({ frames := 4, cells := 0, slots := 0, locals := 94 }) s m args below meth c H locs 0 0 (MQ below (cs_Qv D cA ad F A) args s 0 0 A) (F0 m 101 ls []) := by
  have hx := hC.1
  have hb := hC.2.1
  intro M j y1 y2 y3 H locs ls hw hl g0 hp hf
  unfold f_Mo_action_J101 at hf
  unfold pre_Mo_action_J101 at hp
  refine lv_aload_n hx hb d_Mo_action_101 rfl (lv_at hl 0 rfl) ?_
  refine gf_Mo_act hC hw g0 wd_559 d_Mo_action_102 ?_
  refine lv_iload_n hx hb d_Mo_action_105 rfl (lv_at hl 3 rfl) ?_
  have o24 := hp.1
  have hp := hp.2
  refine cs_iald hC hw is_72 o24 d_Mo_action_106 ?_
  refine lv_iconst (v := 2) hx hb d_Mo_action_107 (by decide) ?_
  refine lv_icmp_ne (tgt := 144) hx hb d_Mo_action_108 (by decide) (fun c25 => ?_) (fun c25 => ?_)
  · have hp := hp.2 c25
    have hf := hf.trans (if_neg c25)
    exact w_Mo_action_J144 hC hr hlk M j y1 y2 y3 _ _ ls hw (lv_sub hl [0, 1, 2, 3] rfl) g0 hp hf
  · have hp := hp.1 c25
    have hf := hf.trans (if_pos c25)
    refine lv_aload_n hx hb d_Mo_action_111 rfl (lv_at hl 0 rfl) ?_
    refine gf_Mo_statics hC hw g0 wd_568 d_Mo_action_112 ?_
    refine lv_iconst (v := 2) hx hb d_Mo_action_115 (by decide) ?_
    refine lv_aload_n hx hb d_Mo_action_116 rfl (lv_at hl 0 rfl) ?_
    refine gf_Mo_frame hC hw g0 wd_569 d_Mo_action_117 ?_
    refine lv_iload_n hx hb d_Mo_action_120 rfl (lv_at hl 2 rfl) ?_
    have o26 := hp.1
    have hp := hp.2
    refine cs_iald hC hw is_80 o26 d_Mo_action_121 ?_
    refine lv_imul hx hb d_Mo_action_122 ?_
    refine lv_aload_n hx hb d_Mo_action_123 rfl (lv_at hl 0 rfl) ?_
    refine gf_Mo_statics hC hw g0 wd_568 d_Mo_action_124 ?_
    refine lv_iconst (v := 2) hx hb d_Mo_action_127 (by decide) ?_
    refine lv_aload_n hx hb d_Mo_action_128 rfl (lv_at hl 0 rfl) ?_
    refine gf_Mo_actB hC hw g0 wd_561 d_Mo_action_129 ?_
    refine lv_iload_n hx hb d_Mo_action_132 rfl (lv_at hl 3 rfl) ?_
    have o27 := hp.1
    have hp := hp.2
    refine cs_iald hC hw is_74 o27 d_Mo_action_133 ?_
    refine lv_imul hx hb d_Mo_action_134 ?_
    refine lv_aload_n hx hb d_Mo_action_135 rfl (lv_at hl 0 rfl) ?_
    refine gf_Mo_actA hC hw g0 wd_560 d_Mo_action_136 ?_
    refine lv_iload_n hx hb d_Mo_action_139 rfl (lv_at hl 3 rfl) ?_
    have o28 := hp.1
    have hp := hp.2
    refine cs_iald hC hw is_73 o28 d_Mo_action_140 ?_
    refine lv_iadd hx hb d_Mo_action_141 ?_
    have o29 := hp.1
    have hp := hp.2
    refine cs_iald hC hw is_79 o29 d_Mo_action_142 ?_
    have o30 := hp.1
    have hp := hp.2
    refine cs_iast hC hw is_79 o30 d_Mo_action_143 (fun N31 H locs eN31 hw => ?_)
    have hp := cs_bdP eN31 hp
    have hf := cs_bdE eN31 hf
    exact w_Mo_action_J144 hC hr hlk N31 j y1 y2 y3 _ _ ls hw (lv_sub hl [0, 1, 2, 3] rfl) g0 hp hf
set_option maxHeartbeats 4000000 in
set_option maxRecDepth 100000 in
theorem w_Mo_action_J38 {p : Program} {l : Launch} {e : Env} {s : State} {m : MethodId} {args : Array Value} {below : List Frame} {meth : Method} {c : Code} {D : va_G} {cA : Nat → ClassId} {A : Nat → Prop} {ad : Nat → Nat} {F : cs_Mem} (hC : cs_Ctx p s m args c prog_8_method_26_code 4 "ClassStarterModel" D cA A) (hr : meth.sig.returnType = none) (hlk : meth.locks = false) : ∀ (M : cs_Mem) (j : Nat) (y1 : Int32) (y3 : Int32) (H : Heap) (locs : List Loc) (ls : Array Slot), cs_Wd D cA ad M A s H locs → lv_has ls 4 [(0, .ref (ad j)), (1, .int y1), (3, .int y3)] → cs_is 5 j → pre_Mo_action_J38 M j y1 y3 → F = f_Mo_action_J38 M j y1 y3 → W p l e ({ frames := 4, cells := 0, slots := 0, locals := 94 }) s m args below meth c H locs 0 0 (MQ below (cs_Qv D cA ad F A) args s 0 0 A) (F0 m 38 ls []) := by
  have hx := hC.1
  have hb := hC.2.1
  intro M j y1 y3 H locs ls hw hl g0 hp hf
  unfold f_Mo_action_J38 at hf
  unfold pre_Mo_action_J38 at hp
  refine lv_aload_n hx hb d_Mo_action_38 rfl (lv_at hl 0 rfl) ?_
  refine lv_iload_n hx hb d_Mo_action_39 rfl (lv_at hl 1 rfl) ?_
  refine lv_aload_n hx hb d_Mo_action_40 rfl (lv_at hl 0 rfl) ?_
  refine gf_Mo_act hC hw g0 wd_559 d_Mo_action_41 ?_
  refine lv_iload_n hx hb d_Mo_action_44 rfl (lv_at hl 2 rfl) ?_
  have o16 := hp.1
  have hp := hp.2
  refine cs_iald hC hw is_72 o16 d_Mo_action_45 ?_
  refine lv_iconst (v := 3) hx hb d_Mo_action_46 (by decide) ?_
  refine lv_icmp_ne (tgt := 59) hx hb d_Mo_action_47 (by decide) (fun c17 => ?_) (fun c17 => ?_)
  · have hp := hp.2 c17
    have hf := hf.trans (if_neg c17)
    refine lv_bipush (v := 10) hx hb d_Mo_action_59 (by decide) ?_
    refine lv_aload_n hx hb d_Mo_action_61 rfl (lv_at hl 0 rfl) ?_
    refine gf_Mo_actA hC hw g0 wd_560 d_Mo_action_62 ?_
    refine lv_iload_n hx hb d_Mo_action_65 rfl (lv_at hl 2 rfl) ?_
    have o18 := hp.1
    have hp := hp.2
    refine cs_iald hC hw is_73 o18 d_Mo_action_66 ?_
    refine lv_iadd hx hb d_Mo_action_67 ?_
    have o19 := hp.1
    have hp := hp.2
    refine cs_ret_v hC hw (cs_runV (As := [.int y1, .int (10 + (M 73 y3.toNatClampNeg))]) (rest := []) hC hw g0.2 (ci := 5) rfl rfl (cs_sg_is g0) (c_Mo_come l D cA ad M j g0 y1 (10 + (M 73 y3.toNatClampNeg)) o19 _) rfl rfl cw_Mo_142 ⟨Nat.le_of_ble_eq_true rfl, Nat.le_of_ble_eq_true rfl⟩ hl.1 rfl rfl (Nat.le_of_ble_eq_true rfl) d_Mo_action_68 ⟨Nat.zero_le _, Nat.zero_le _⟩) (fun u20 H locs eu20 hw => ?_)
    have hf := cs_bdE eu20 hf
    exact cs_vret hC hw hr hlk hf d_Mo_action_71
  · have hp := hp.1 c17
    have hf := hf.trans (if_pos c17)
    refine lv_aload_n hx hb d_Mo_action_50 rfl (lv_at hl 0 rfl) ?_
    refine gf_Mo_actA hC hw g0 wd_560 d_Mo_action_51 ?_
    refine lv_iload_n hx hb d_Mo_action_54 rfl (lv_at hl 2 rfl) ?_
    have o21 := hp.1
    have hp := hp.2
    refine cs_iald hC hw is_73 o21 d_Mo_action_55 ?_
    refine lv_goto (tgt := 68) hx hb d_Mo_action_56 (by decide) ?_
    have o22 := hp.1
    have hp := hp.2
    refine cs_ret_v hC hw (cs_runV (As := [.int y1, .int (M 73 y3.toNatClampNeg)]) (rest := []) hC hw g0.2 (ci := 5) rfl rfl (cs_sg_is g0) (c_Mo_come l D cA ad M j g0 y1 (M 73 y3.toNatClampNeg) o22 _) rfl rfl cw_Mo_142 ⟨Nat.le_of_ble_eq_true rfl, Nat.le_of_ble_eq_true rfl⟩ hl.1 rfl rfl (Nat.le_of_ble_eq_true rfl) d_Mo_action_68 ⟨Nat.zero_le _, Nat.zero_le _⟩) (fun u23 H locs eu23 hw => ?_)
    have hf := cs_bdE eu23 hf
    exact cs_vret hC hw hr hlk hf d_Mo_action_71
set_option maxHeartbeats 4000000 in
set_option maxRecDepth 100000 in
theorem c_Mo_action (l : Launch) (D : va_G) (cA : Nat → ClassId) (ad : Nat → Nat) (M : cs_Mem) (j : Nat) (hj : cs_is 5 j) (x1 : Int32) (hp : pre_Mo_action M j x1) : cs_Cv l ⟨"ClassStarterModel", "action", "(I)V"⟩ prog_8_method_26_code 4 none ({ frames := 4, cells := 0, slots := 0, locals := 94 }) D cA ad M [.ref (ad j), .int x1] (f_Mo_action M j x1) := by
  refine cs_entry (by decide) (Nat.le_of_ble_eq_true rfl) (fun p e s m below meth c A ls hC hr hlk _ hw hl => ?_)
  have hx := hC.1
  have hb := hC.2.1
  have hl : lv_has ls 4 [(0, .ref (ad j)), (1, .int x1)] := hl
  generalize hF : f_Mo_action M j x1 = F
  have hf := hF.symm
  unfold f_Mo_action at hf
  unfold pre_Mo_action at hp
  refine lv_aload_n hx hb d_Mo_action_0 rfl (lv_at hl 0 rfl) ?_
  refine lv_iload_n hx hb d_Mo_action_1 rfl (lv_at hl 1 rfl) ?_
  have o1 := hp.1
  have hp := hp.2
  refine cs_ret_p hC hw (cs_runV (As := [.int x1]) (rest := []) hC hw hj.2 (ci := 5) rfl rfl (cs_sg_is hj) (c_Mo_top l D cA ad M j hj x1 o1 _) rfl rfl cw_Mo_113 ⟨Nat.le_of_ble_eq_true rfl, Nat.le_of_ble_eq_true rfl⟩ hl.1 rfl rfl (Nat.le_of_ble_eq_true rfl) d_Mo_action_2 ⟨Nat.zero_le _, Nat.zero_le _⟩) (fun r2 H locs er2 hw => ?_)
  have hp := cs_bdP er2 hp
  have hf := cs_bdE er2 hf
  refine lv_istore_n (lv' := [(2, .int r2), (0, .ref (ad j)), (1, .int x1)]) hx hb d_Mo_action_5 rfl hl (by decide) rfl (fun ls hl => ?_)
  refine lv_aload_n hx hb d_Mo_action_6 rfl (lv_at hl 1 rfl) ?_
  refine lv_iload_n hx hb d_Mo_action_7 rfl (lv_at hl 2 rfl) ?_
  refine lv_aload_n hx hb d_Mo_action_8 rfl (lv_at hl 1 rfl) ?_
  refine gf_Mo_part hC hw hj wd_570 d_Mo_action_9 ?_
  refine lv_iload_n hx hb d_Mo_action_12 rfl (lv_at hl 0 rfl) ?_
  have o3 := hp.1
  have hp := hp.2
  refine cs_iald hC hw is_81 o3 d_Mo_action_13 ?_
  have o4 := hp.1
  have hp := hp.2
  refine cs_ret_p hC hw (cs_runV (As := [.int x1, .int (M 81 r2.toNatClampNeg)]) (rest := []) hC hw hj.2 (ci := 5) rfl rfl (cs_sg_is hj) (c_Mo_actionAt l D cA ad M j hj x1 (M 81 r2.toNatClampNeg) o4 _) rfl rfl cw_Mo_120 ⟨Nat.le_of_ble_eq_true rfl, Nat.le_of_ble_eq_true rfl⟩ hl.1 rfl rfl (Nat.le_of_ble_eq_true rfl) d_Mo_action_14 ⟨Nat.zero_le _, Nat.zero_le _⟩) (fun r5 H locs er5 hw => ?_)
  have hp := cs_bdP er5 hp
  have hf := cs_bdE er5 hf
  refine lv_istore_n (lv' := [(3, .int r5), (2, .int r2), (0, .ref (ad j)), (1, .int x1)]) hx hb d_Mo_action_17 rfl hl (by decide) rfl (fun ls hl => ?_)
  refine lv_aload_n hx hb d_Mo_action_18 rfl (lv_at hl 2 rfl) ?_
  refine gf_Mo_act hC hw hj wd_559 d_Mo_action_19 ?_
  refine lv_iload_n hx hb d_Mo_action_22 rfl (lv_at hl 0 rfl) ?_
  have o6 := hp.1
  have hp := hp.2
  refine cs_iald hC hw is_72 o6 d_Mo_action_23 ?_
  refine lv_iconst (v := 3) hx hb d_Mo_action_24 (by decide) ?_
  refine lv_icmp_eq (tgt := 38) hx hb d_Mo_action_25 (by decide) (fun c7 => ?_) (fun c7 => ?_)
  · have hp := hp.1 c7
    have hf := hf.trans (if_pos c7)
    exact w_Mo_action_J38 hC hr hlk M j x1 r5 _ _ ls hw (lv_sub hl [2, 3, 0] rfl) hj hp hf
  · have hp := hp.2 c7
    have hf := hf.trans (if_neg c7)
    refine lv_aload_n hx hb d_Mo_action_28 rfl (lv_at hl 2 rfl) ?_
    refine gf_Mo_act hC hw hj wd_559 d_Mo_action_29 ?_
    refine lv_iload_n hx hb d_Mo_action_32 rfl (lv_at hl 0 rfl) ?_
    have o8 := hp.1
    have hp := hp.2
    refine cs_iald hC hw is_72 o8 d_Mo_action_33 ?_
    refine lv_iconst (v := 4) hx hb d_Mo_action_34 (by decide) ?_
    refine lv_icmp_ne (tgt := 72) hx hb d_Mo_action_35 (by decide) (fun c9 => ?_) (fun c9 => ?_)
    · have hp := hp.2 c9
      have hf := hf.trans (if_neg c9)
      refine lv_aload_n hx hb d_Mo_action_72 rfl (lv_at hl 2 rfl) ?_
      refine gf_Mo_act hC hw hj wd_559 d_Mo_action_73 ?_
      refine lv_iload_n hx hb d_Mo_action_76 rfl (lv_at hl 0 rfl) ?_
      have o10 := hp.1
      have hp := hp.2
      refine cs_iald hC hw is_72 o10 d_Mo_action_77 ?_
      refine lv_iconst (v := 1) hx hb d_Mo_action_78 (by decide) ?_
      refine lv_icmp_ne (tgt := 101) hx hb d_Mo_action_79 (by decide) (fun c11 => ?_) (fun c11 => ?_)
      · have hp := hp.2 c11
        have hf := hf.trans (if_neg c11)
        exact w_Mo_action_J101 hC hr hlk M j x1 r2 r5 _ _ ls hw (lv_sub hl [2, 3, 1, 0] rfl) hj hp hf
      · have hp := hp.1 c11
        have hf := hf.trans (if_pos c11)
        refine lv_aload_n hx hb d_Mo_action_82 rfl (lv_at hl 2 rfl) ?_
        refine gf_Mo_statics hC hw hj wd_568 d_Mo_action_83 ?_
        refine lv_iconst (v := 2) hx hb d_Mo_action_86 (by decide) ?_
        refine lv_aload_n hx hb d_Mo_action_87 rfl (lv_at hl 2 rfl) ?_
        refine gf_Mo_frame hC hw hj wd_569 d_Mo_action_88 ?_
        refine lv_iload_n hx hb d_Mo_action_91 rfl (lv_at hl 1 rfl) ?_
        have o12 := hp.1
        have hp := hp.2
        refine cs_iald hC hw is_80 o12 d_Mo_action_92 ?_
        refine lv_imul hx hb d_Mo_action_93 ?_
        refine lv_aload_n hx hb d_Mo_action_94 rfl (lv_at hl 2 rfl) ?_
        refine gf_Mo_actB hC hw hj wd_561 d_Mo_action_95 ?_
        refine lv_iload_n hx hb d_Mo_action_98 rfl (lv_at hl 0 rfl) ?_
        have o13 := hp.1
        have hp := hp.2
        refine cs_iald hC hw is_74 o13 d_Mo_action_99 ?_
        have o14 := hp.1
        have hp := hp.2
        refine cs_iast hC hw is_79 o14 d_Mo_action_100 (fun N15 H locs eN15 hw => ?_)
        have hp := cs_bdP eN15 hp
        have hf := cs_bdE eN15 hf
        exact w_Mo_action_J101 hC hr hlk N15 j x1 r2 r5 _ _ ls hw (lv_sub hl [2, 3, 1, 0] rfl) hj hp hf
    · have hp := hp.1 c9
      have hf := hf.trans (if_pos c9)
      exact w_Mo_action_J38 hC hr hlk M j x1 r5 _ _ ls hw (lv_sub hl [2, 3, 0] rfl) hj hp hf
theorem d_Mo_stepOf_0 : decode prog_8_method_27_code 0 = .ok (.aload_n 0, 1) := by decide +kernel
theorem d_Mo_stepOf_1 : decode prog_8_method_27_code 1 = .ok (.getfield 71, 3) := by decide +kernel
theorem d_Mo_stepOf_4 : decode prog_8_method_27_code 4 = .ok (.iload_n 1, 1) := by decide +kernel
theorem d_Mo_stepOf_5 : decode prog_8_method_27_code 5 = .ok (.iaload, 1) := by decide +kernel
theorem d_Mo_stepOf_6 : decode prog_8_method_27_code 6 = .ok (.ifCond .lt 53, 3) := by decide +kernel
theorem d_Mo_stepOf_9 : decode prog_8_method_27_code 9 = .ok (.aload_n 0, 1) := by decide +kernel
theorem d_Mo_stepOf_10 : decode prog_8_method_27_code 10 = .ok (.getfield 71, 3) := by decide +kernel
theorem d_Mo_stepOf_13 : decode prog_8_method_27_code 13 = .ok (.iload_n 1, 1) := by decide +kernel
theorem d_Mo_stepOf_14 : decode prog_8_method_27_code 14 = .ok (.iaload, 1) := by decide +kernel
theorem d_Mo_stepOf_15 : decode prog_8_method_27_code 15 = .ok (.bipush 10, 2) := by decide +kernel
theorem d_Mo_stepOf_17 : decode prog_8_method_27_code 17 = .ok (.if_icmp .ge 15, 3) := by decide +kernel
theorem d_Mo_stepOf_20 : decode prog_8_method_27_code 20 = .ok (.bipush 30, 2) := by decide +kernel
theorem d_Mo_stepOf_22 : decode prog_8_method_27_code 22 = .ok (.aload_n 0, 1) := by decide +kernel
theorem d_Mo_stepOf_23 : decode prog_8_method_27_code 23 = .ok (.getfield 71, 3) := by decide +kernel
theorem d_Mo_stepOf_26 : decode prog_8_method_27_code 26 = .ok (.iload_n 1, 1) := by decide +kernel
theorem d_Mo_stepOf_27 : decode prog_8_method_27_code 27 = .ok (.iaload, 1) := by decide +kernel
theorem d_Mo_stepOf_28 : decode prog_8_method_27_code 28 = .ok (.iadd, 1) := by decide +kernel
theorem d_Mo_stepOf_29 : decode prog_8_method_27_code 29 = .ok (.goto 9, 3) := by decide +kernel
theorem d_Mo_stepOf_32 : decode prog_8_method_27_code 32 = .ok (.aload_n 0, 1) := by decide +kernel
theorem d_Mo_stepOf_33 : decode prog_8_method_27_code 33 = .ok (.getfield 71, 3) := by decide +kernel
theorem d_Mo_stepOf_36 : decode prog_8_method_27_code 36 = .ok (.iload_n 1, 1) := by decide +kernel
theorem d_Mo_stepOf_37 : decode prog_8_method_27_code 37 = .ok (.iaload, 1) := by decide +kernel
theorem d_Mo_stepOf_38 : decode prog_8_method_27_code 38 = .ok (.istore_n 2, 1) := by decide +kernel
theorem d_Mo_stepOf_39 : decode prog_8_method_27_code 39 = .ok (.aload_n 0, 1) := by decide +kernel
theorem d_Mo_stepOf_40 : decode prog_8_method_27_code 40 = .ok (.getfield 71, 3) := by decide +kernel
theorem d_Mo_stepOf_43 : decode prog_8_method_27_code 43 = .ok (.iload_n 1, 1) := by decide +kernel
theorem d_Mo_stepOf_44 : decode prog_8_method_27_code 44 = .ok (.iconst (-1), 1) := by decide +kernel
theorem d_Mo_stepOf_45 : decode prog_8_method_27_code 45 = .ok (.iastore, 1) := by decide +kernel
theorem d_Mo_stepOf_46 : decode prog_8_method_27_code 46 = .ok (.aload_n 0, 1) := by decide +kernel
theorem d_Mo_stepOf_47 : decode prog_8_method_27_code 47 = .ok (.iload_n 1, 1) := by decide +kernel
theorem d_Mo_stepOf_48 : decode prog_8_method_27_code 48 = .ok (.iconst 2, 1) := by decide +kernel
theorem d_Mo_stepOf_49 : decode prog_8_method_27_code 49 = .ok (.invokevirtual 152, 3) := by decide +kernel
theorem d_Mo_stepOf_52 : decode prog_8_method_27_code 52 = .ok (.aload_n 0, 1) := by decide +kernel
theorem d_Mo_stepOf_53 : decode prog_8_method_27_code 53 = .ok (.iload_n 1, 1) := by decide +kernel
theorem d_Mo_stepOf_54 : decode prog_8_method_27_code 54 = .ok (.iload_n 2, 1) := by decide +kernel
theorem d_Mo_stepOf_55 : decode prog_8_method_27_code 55 = .ok (.invokevirtual 142, 3) := by decide +kernel
theorem d_Mo_stepOf_58 : decode prog_8_method_27_code 58 = .ok (.return_, 1) := by decide +kernel
theorem d_Mo_stepOf_59 : decode prog_8_method_27_code 59 = .ok (.aload_n 0, 1) := by decide +kernel
theorem d_Mo_stepOf_60 : decode prog_8_method_27_code 60 = .ok (.iload_n 1, 1) := by decide +kernel
theorem d_Mo_stepOf_61 : decode prog_8_method_27_code 61 = .ok (.invokevirtual 113, 3) := by decide +kernel
theorem d_Mo_stepOf_64 : decode prog_8_method_27_code 64 = .ok (.istore_n 2, 1) := by decide +kernel
theorem d_Mo_stepOf_65 : decode prog_8_method_27_code 65 = .ok (.aload_n 0, 1) := by decide +kernel
theorem d_Mo_stepOf_66 : decode prog_8_method_27_code 66 = .ok (.getfield 65, 3) := by decide +kernel
theorem d_Mo_stepOf_69 : decode prog_8_method_27_code 69 = .ok (.iload_n 2, 1) := by decide +kernel
theorem d_Mo_stepOf_70 : decode prog_8_method_27_code 70 = .ok (.iaload, 1) := by decide +kernel
theorem d_Mo_stepOf_71 : decode prog_8_method_27_code 71 = .ok (.aload_n 0, 1) := by decide +kernel
theorem d_Mo_stepOf_72 : decode prog_8_method_27_code 72 = .ok (.iload_n 1, 1) := by decide +kernel
theorem d_Mo_stepOf_73 : decode prog_8_method_27_code 73 = .ok (.aload_n 0, 1) := by decide +kernel
theorem d_Mo_stepOf_74 : decode prog_8_method_27_code 74 = .ok (.getfield 62, 3) := by decide +kernel
theorem d_Mo_stepOf_77 : decode prog_8_method_27_code 77 = .ok (.iload_n 2, 1) := by decide +kernel
theorem d_Mo_stepOf_78 : decode prog_8_method_27_code 78 = .ok (.iaload, 1) := by decide +kernel
theorem d_Mo_stepOf_79 : decode prog_8_method_27_code 79 = .ok (.invokevirtual 116, 3) := by decide +kernel
theorem d_Mo_stepOf_82 : decode prog_8_method_27_code 82 = .ok (.if_icmp .lt 15, 3) := by decide +kernel
theorem d_Mo_stepOf_85 : decode prog_8_method_27_code 85 = .ok (.aload_n 0, 1) := by decide +kernel
theorem d_Mo_stepOf_86 : decode prog_8_method_27_code 86 = .ok (.iload_n 1, 1) := by decide +kernel
theorem d_Mo_stepOf_87 : decode prog_8_method_27_code 87 = .ok (.iconst 1, 1) := by decide +kernel
theorem d_Mo_stepOf_88 : decode prog_8_method_27_code 88 = .ok (.invokevirtual 152, 3) := by decide +kernel
theorem d_Mo_stepOf_91 : decode prog_8_method_27_code 91 = .ok (.aload_n 0, 1) := by decide +kernel
theorem d_Mo_stepOf_92 : decode prog_8_method_27_code 92 = .ok (.iload_n 1, 1) := by decide +kernel
theorem d_Mo_stepOf_93 : decode prog_8_method_27_code 93 = .ok (.invokevirtual 146, 3) := by decide +kernel
theorem d_Mo_stepOf_96 : decode prog_8_method_27_code 96 = .ok (.return_, 1) := by decide +kernel
theorem d_Mo_stepOf_97 : decode prog_8_method_27_code 97 = .ok (.aload_n 0, 1) := by decide +kernel
theorem d_Mo_stepOf_98 : decode prog_8_method_27_code 98 = .ok (.iload_n 1, 1) := by decide +kernel
theorem d_Mo_stepOf_99 : decode prog_8_method_27_code 99 = .ok (.invokevirtual 126, 3) := by decide +kernel
theorem d_Mo_stepOf_102 : decode prog_8_method_27_code 102 = .ok (.istore_n 3, 1) := by decide +kernel
theorem d_Mo_stepOf_103 : decode prog_8_method_27_code 103 = .ok (.iload_n 3, 1) := by decide +kernel
theorem d_Mo_stepOf_104 : decode prog_8_method_27_code 104 = .ok (.ifCond .lt 12, 3) := by decide +kernel
theorem d_Mo_stepOf_107 : decode prog_8_method_27_code 107 = .ok (.aload_n 0, 1) := by decide +kernel
theorem d_Mo_stepOf_108 : decode prog_8_method_27_code 108 = .ok (.iload_n 1, 1) := by decide +kernel
theorem d_Mo_stepOf_109 : decode prog_8_method_27_code 109 = .ok (.iload_n 3, 1) := by decide +kernel
theorem d_Mo_stepOf_110 : decode prog_8_method_27_code 110 = .ok (.invokevirtual 155, 3) := by decide +kernel
theorem d_Mo_stepOf_113 : decode prog_8_method_27_code 113 = .ok (.goto 8, 3) := by decide +kernel
theorem d_Mo_stepOf_116 : decode prog_8_method_27_code 116 = .ok (.aload_n 0, 1) := by decide +kernel
theorem d_Mo_stepOf_117 : decode prog_8_method_27_code 117 = .ok (.iload_n 1, 1) := by decide +kernel
theorem d_Mo_stepOf_118 : decode prog_8_method_27_code 118 = .ok (.invokevirtual 158, 3) := by decide +kernel
theorem d_Mo_stepOf_121 : decode prog_8_method_27_code 121 = .ok (.return_, 1) := by decide +kernel
def f_Mo_stepOf (M : cs_Mem) (j : Nat) (x1 : Int32) : cs_Mem :=
  if (M 83 x1.toNatClampNeg) < 0 then
    cs_bd (f_Mo_top M j x1) fun (r4 : Int32) =>
    cs_bd (f_Mo_parts M j x1 (M 80 r4.toNatClampNeg)) fun (r8 : Int32) =>
    if (M 81 r4.toNatClampNeg) < r8 then
      cs_bd (f_Mo_usedNow M j x1) fun (r11 : Int32) =>
      if r11 < 0 then
        cs_bd (f_Mo_action M j x1) fun (u14 : cs_Mem) =>
        u14
      else
        cs_bd (f_Mo_useOf M j x1 r11) fun (u16 : cs_Mem) =>
        u16
    else
      cs_bd (f_Mo_leave M j x1 1) fun (u18 : cs_Mem) =>
      cs_bd (f_Mo_madeUse u18 j x1) fun (u20 : cs_Mem) =>
      u20
  else
    if 10 ≤ (M 83 x1.toNatClampNeg) then
      cs_bd (M 83 x1.toNatClampNeg) fun (z24 : Int32) =>
      cs_bd (cs_up M 83 (upd (M 83) x1.toNatClampNeg (-1))) fun (N26 : cs_Mem) =>
      cs_bd (f_Mo_leave N26 j x1 2) fun (u28 : cs_Mem) =>
      cs_bd (f_Mo_come u28 j x1 z24) fun (u30 : cs_Mem) =>
      u30
    else
      cs_bd (30 + (M 83 x1.toNatClampNeg)) fun (z32 : Int32) =>
      cs_bd (cs_up M 83 (upd (M 83) x1.toNatClampNeg (-1))) fun (N34 : cs_Mem) =>
      cs_bd (f_Mo_leave N34 j x1 2) fun (u36 : cs_Mem) =>
      cs_bd (f_Mo_come u36 j x1 z32) fun (u38 : cs_Mem) =>
      u38
def pre_Mo_stepOf (M : cs_Mem) (j : Nat) (x1 : Int32) : Prop :=
  (vp_in x1 (cs_ln M 83)) ∧
  ((M 83 x1.toNatClampNeg) < 0 →
    (pre_Mo_top M j x1) ∧
    cs_bd (f_Mo_top M j x1) fun (r4 : Int32) =>
    (vp_in r4 (cs_ln M 81)) ∧
    (vp_in r4 (cs_ln M 80)) ∧
    (pre_Mo_parts M j x1 (M 80 r4.toNatClampNeg)) ∧
    cs_bd (f_Mo_parts M j x1 (M 80 r4.toNatClampNeg)) fun (r8 : Int32) =>
    ((M 81 r4.toNatClampNeg) < r8 →
      (pre_Mo_usedNow M j x1) ∧
      cs_bd (f_Mo_usedNow M j x1) fun (r11 : Int32) =>
      (r11 < 0 →
        (pre_Mo_action M j x1) ∧
        True
      ) ∧ (¬ (r11 < 0) →
        (pre_Mo_useOf M j x1 r11) ∧
        True
      )
    ) ∧ (¬ ((M 81 r4.toNatClampNeg) < r8) →
      (pre_Mo_leave M j x1 1) ∧
      cs_bd (f_Mo_leave M j x1 1) fun (u18 : cs_Mem) =>
      (pre_Mo_madeUse u18 j x1) ∧
      True
    )
  ) ∧ (¬ ((M 83 x1.toNatClampNeg) < 0) →
    (vp_in x1 (cs_ln M 83)) ∧
    (10 ≤ (M 83 x1.toNatClampNeg) →
      (vp_in x1 (cs_ln M 83)) ∧
      cs_bd (M 83 x1.toNatClampNeg) fun (z24 : Int32) =>
      (vp_in x1 (cs_ln M 83)) ∧
      cs_bd (cs_up M 83 (upd (M 83) x1.toNatClampNeg (-1))) fun (N26 : cs_Mem) =>
      (pre_Mo_leave N26 j x1 2) ∧
      cs_bd (f_Mo_leave N26 j x1 2) fun (u28 : cs_Mem) =>
      (pre_Mo_come u28 j x1 z24) ∧
      True
    ) ∧ (¬ (10 ≤ (M 83 x1.toNatClampNeg)) →
      (vp_in x1 (cs_ln M 83)) ∧
      cs_bd (30 + (M 83 x1.toNatClampNeg)) fun (z32 : Int32) =>
      (vp_in x1 (cs_ln M 83)) ∧
      cs_bd (cs_up M 83 (upd (M 83) x1.toNatClampNeg (-1))) fun (N34 : cs_Mem) =>
      (pre_Mo_leave N34 j x1 2) ∧
      cs_bd (f_Mo_leave N34 j x1 2) fun (u36 : cs_Mem) =>
      (pre_Mo_come u36 j x1 z32) ∧
      True
    )
  )
set_option maxHeartbeats 4000000 in
set_option maxRecDepth 100000 in
theorem c_Mo_stepOf (l : Launch) (D : va_G) (cA : Nat → ClassId) (ad : Nat → Nat) (M : cs_Mem) (j : Nat) (hj : cs_is 5 j) (x1 : Int32) (hp : pre_Mo_stepOf M j x1) : cs_Cv l ⟨"ClassStarterModel", "stepOf", "(I)V"⟩ prog_8_method_27_code 4 none ({ frames := 5, cells := 0, slots := 0, locals := 117 }) D cA ad M [.ref (ad j), .int x1] (f_Mo_stepOf M j x1) := by
  refine cs_entry (by decide) (Nat.le_of_ble_eq_true rfl) (fun p e s m below meth c A ls hC hr hlk _ hw hl => ?_)
  have hx := hC.1
  have hb := hC.2.1
  have hl : lv_has ls 4 [(0, .ref (ad j)), (1, .int x1)] := hl
  generalize hF : f_Mo_stepOf M j x1 = F
  have hf := hF.symm
  unfold f_Mo_stepOf at hf
  unfold pre_Mo_stepOf at hp
  refine lv_aload_n hx hb d_Mo_stepOf_0 rfl (lv_at hl 0 rfl) ?_
  refine gf_Mo_pending hC hw hj wd_572 d_Mo_stepOf_1 ?_
  refine lv_iload_n hx hb d_Mo_stepOf_4 rfl (lv_at hl 1 rfl) ?_
  have o1 := hp.1
  have hp := hp.2
  refine cs_iald hC hw is_83 o1 d_Mo_stepOf_5 ?_
  refine lv_if_lt (tgt := 59) hx hb d_Mo_stepOf_6 (by decide) (fun c2 => ?_) (fun c2 => ?_)
  · have hp := hp.1 c2
    have hf := hf.trans (if_pos c2)
    refine lv_aload_n hx hb d_Mo_stepOf_59 rfl (lv_at hl 0 rfl) ?_
    refine lv_iload_n hx hb d_Mo_stepOf_60 rfl (lv_at hl 1 rfl) ?_
    have o3 := hp.1
    have hp := hp.2
    refine cs_ret_p hC hw (cs_runV (As := [.int x1]) (rest := []) hC hw hj.2 (ci := 5) rfl rfl (cs_sg_is hj) (c_Mo_top l D cA ad M j hj x1 o3 _) rfl rfl cw_Mo_113 ⟨Nat.le_of_ble_eq_true rfl, Nat.le_of_ble_eq_true rfl⟩ hl.1 rfl rfl (Nat.le_of_ble_eq_true rfl) d_Mo_stepOf_61 ⟨Nat.zero_le _, Nat.zero_le _⟩) (fun r4 H locs er4 hw => ?_)
    have hp := cs_bdP er4 hp
    have hf := cs_bdE er4 hf
    refine lv_istore_n (lv' := [(2, .int r4), (0, .ref (ad j)), (1, .int x1)]) hx hb d_Mo_stepOf_64 rfl hl (by decide) rfl (fun ls hl => ?_)
    refine lv_aload_n hx hb d_Mo_stepOf_65 rfl (lv_at hl 1 rfl) ?_
    refine gf_Mo_part hC hw hj wd_570 d_Mo_stepOf_66 ?_
    refine lv_iload_n hx hb d_Mo_stepOf_69 rfl (lv_at hl 0 rfl) ?_
    have o5 := hp.1
    have hp := hp.2
    refine cs_iald hC hw is_81 o5 d_Mo_stepOf_70 ?_
    refine lv_aload_n hx hb d_Mo_stepOf_71 rfl (lv_at hl 1 rfl) ?_
    refine lv_iload_n hx hb d_Mo_stepOf_72 rfl (lv_at hl 2 rfl) ?_
    refine lv_aload_n hx hb d_Mo_stepOf_73 rfl (lv_at hl 1 rfl) ?_
    refine gf_Mo_frame hC hw hj wd_569 d_Mo_stepOf_74 ?_
    refine lv_iload_n hx hb d_Mo_stepOf_77 rfl (lv_at hl 0 rfl) ?_
    have o6 := hp.1
    have hp := hp.2
    refine cs_iald hC hw is_80 o6 d_Mo_stepOf_78 ?_
    have o7 := hp.1
    have hp := hp.2
    refine cs_ret_p hC hw (cs_runV (As := [.int x1, .int (M 80 r4.toNatClampNeg)]) (rest := [.int (M 81 r4.toNatClampNeg)]) hC hw hj.2 (ci := 5) rfl rfl (cs_sg_is hj) (c_Mo_parts l D cA ad M j hj x1 (M 80 r4.toNatClampNeg) o7 _) rfl rfl cw_Mo_116 ⟨Nat.le_of_ble_eq_true rfl, Nat.le_of_ble_eq_true rfl⟩ hl.1 rfl rfl (Nat.le_of_ble_eq_true rfl) d_Mo_stepOf_79 ⟨Nat.zero_le _, Nat.zero_le _⟩) (fun r8 H locs er8 hw => ?_)
    have hp := cs_bdP er8 hp
    have hf := cs_bdE er8 hf
    refine lv_icmp_lt (tgt := 97) hx hb d_Mo_stepOf_82 (by decide) (fun c9 => ?_) (fun c9 => ?_)
    · have hp := hp.1 c9
      have hf := hf.trans (if_pos c9)
      refine lv_aload_n hx hb d_Mo_stepOf_97 rfl (lv_at hl 1 rfl) ?_
      refine lv_iload_n hx hb d_Mo_stepOf_98 rfl (lv_at hl 2 rfl) ?_
      have o10 := hp.1
      have hp := hp.2
      refine cs_ret_p hC hw (cs_runV (As := [.int x1]) (rest := []) hC hw hj.2 (ci := 5) rfl rfl (cs_sg_is hj) (c_Mo_usedNow l D cA ad M j hj x1 o10 _) rfl rfl cw_Mo_126 ⟨Nat.le_of_ble_eq_true rfl, Nat.le_of_ble_eq_true rfl⟩ hl.1 rfl rfl (Nat.le_of_ble_eq_true rfl) d_Mo_stepOf_99 ⟨Nat.zero_le _, Nat.zero_le _⟩) (fun r11 H locs er11 hw => ?_)
      have hp := cs_bdP er11 hp
      have hf := cs_bdE er11 hf
      refine lv_istore_n (lv' := [(3, .int r11), (2, .int r4), (0, .ref (ad j)), (1, .int x1)]) hx hb d_Mo_stepOf_102 rfl hl (by decide) rfl (fun ls hl => ?_)
      refine lv_iload_n hx hb d_Mo_stepOf_103 rfl (lv_at hl 0 rfl) ?_
      refine lv_if_lt (tgt := 116) hx hb d_Mo_stepOf_104 (by decide) (fun c12 => ?_) (fun c12 => ?_)
      · have hp := hp.1 c12
        have hf := hf.trans (if_pos c12)
        refine lv_aload_n hx hb d_Mo_stepOf_116 rfl (lv_at hl 2 rfl) ?_
        refine lv_iload_n hx hb d_Mo_stepOf_117 rfl (lv_at hl 3 rfl) ?_
        have o13 := hp.1
        have hp := hp.2
        refine cs_ret_v hC hw (cs_runV (As := [.int x1]) (rest := []) hC hw hj.2 (ci := 5) rfl rfl (cs_sg_is hj) (c_Mo_action l D cA ad M j hj x1 o13 _) rfl rfl cw_Mo_158 ⟨Nat.le_of_ble_eq_true rfl, Nat.le_of_ble_eq_true rfl⟩ hl.1 rfl rfl (Nat.le_of_ble_eq_true rfl) d_Mo_stepOf_118 ⟨Nat.zero_le _, Nat.zero_le _⟩) (fun u14 H locs eu14 hw => ?_)
        have hf := cs_bdE eu14 hf
        exact cs_vret hC hw hr hlk hf d_Mo_stepOf_121
      · have hp := hp.2 c12
        have hf := hf.trans (if_neg c12)
        refine lv_aload_n hx hb d_Mo_stepOf_107 rfl (lv_at hl 2 rfl) ?_
        refine lv_iload_n hx hb d_Mo_stepOf_108 rfl (lv_at hl 3 rfl) ?_
        refine lv_iload_n hx hb d_Mo_stepOf_109 rfl (lv_at hl 0 rfl) ?_
        have o15 := hp.1
        have hp := hp.2
        refine cs_ret_v hC hw (cs_runV (As := [.int x1, .int r11]) (rest := []) hC hw hj.2 (ci := 5) rfl rfl (cs_sg_is hj) (c_Mo_useOf l D cA ad M j hj x1 r11 o15 _) rfl rfl cw_Mo_155 ⟨Nat.le_of_ble_eq_true rfl, Nat.le_of_ble_eq_true rfl⟩ hl.1 rfl rfl (Nat.le_of_ble_eq_true rfl) d_Mo_stepOf_110 ⟨Nat.zero_le _, Nat.zero_le _⟩) (fun u16 H locs eu16 hw => ?_)
        have hf := cs_bdE eu16 hf
        refine lv_goto (tgt := 121) hx hb d_Mo_stepOf_113 (by decide) ?_
        exact cs_vret hC hw hr hlk hf d_Mo_stepOf_121
    · have hp := hp.2 c9
      have hf := hf.trans (if_neg c9)
      refine lv_aload_n hx hb d_Mo_stepOf_85 rfl (lv_at hl 1 rfl) ?_
      refine lv_iload_n hx hb d_Mo_stepOf_86 rfl (lv_at hl 2 rfl) ?_
      refine lv_iconst (v := 1) hx hb d_Mo_stepOf_87 (by decide) ?_
      have o17 := hp.1
      have hp := hp.2
      refine cs_ret_v hC hw (cs_runV (As := [.int x1, .int 1]) (rest := []) hC hw hj.2 (ci := 5) rfl rfl (cs_sg_is hj) (c_Mo_leave l D cA ad M j hj x1 1 o17 _) rfl rfl cw_Mo_152 ⟨Nat.le_of_ble_eq_true rfl, Nat.le_of_ble_eq_true rfl⟩ hl.1 rfl rfl (Nat.le_of_ble_eq_true rfl) d_Mo_stepOf_88 ⟨Nat.zero_le _, Nat.zero_le _⟩) (fun u18 H locs eu18 hw => ?_)
      have hp := cs_bdP eu18 hp
      have hf := cs_bdE eu18 hf
      refine lv_aload_n hx hb d_Mo_stepOf_91 rfl (lv_at hl 1 rfl) ?_
      refine lv_iload_n hx hb d_Mo_stepOf_92 rfl (lv_at hl 2 rfl) ?_
      have o19 := hp.1
      have hp := hp.2
      refine cs_ret_v hC hw (cs_runV (As := [.int x1]) (rest := []) hC hw hj.2 (ci := 5) rfl rfl (cs_sg_is hj) (c_Mo_madeUse l D cA ad u18 j hj x1 o19 _) rfl rfl cw_Mo_146 ⟨Nat.le_of_ble_eq_true rfl, Nat.le_of_ble_eq_true rfl⟩ hl.1 rfl rfl (Nat.le_of_ble_eq_true rfl) d_Mo_stepOf_93 ⟨Nat.zero_le _, Nat.zero_le _⟩) (fun u20 H locs eu20 hw => ?_)
      have hf := cs_bdE eu20 hf
      exact cs_vret hC hw hr hlk hf d_Mo_stepOf_96
  · have hp := hp.2 c2
    have hf := hf.trans (if_neg c2)
    refine lv_aload_n hx hb d_Mo_stepOf_9 rfl (lv_at hl 0 rfl) ?_
    refine gf_Mo_pending hC hw hj wd_572 d_Mo_stepOf_10 ?_
    refine lv_iload_n hx hb d_Mo_stepOf_13 rfl (lv_at hl 1 rfl) ?_
    have o21 := hp.1
    have hp := hp.2
    refine cs_iald hC hw is_83 o21 d_Mo_stepOf_14 ?_
    refine lv_bipush (v := 10) hx hb d_Mo_stepOf_15 (by decide) ?_
    refine lv_icmp_ge (tgt := 32) hx hb d_Mo_stepOf_17 (by decide) (fun c22 => ?_) (fun c22 => ?_)
    · have hp := hp.1 c22
      have hf := hf.trans (if_pos c22)
      refine lv_aload_n hx hb d_Mo_stepOf_32 rfl (lv_at hl 0 rfl) ?_
      refine gf_Mo_pending hC hw hj wd_572 d_Mo_stepOf_33 ?_
      refine lv_iload_n hx hb d_Mo_stepOf_36 rfl (lv_at hl 1 rfl) ?_
      have o23 := hp.1
      have hp := hp.2
      refine cs_iald hC hw is_83 o23 d_Mo_stepOf_37 ?_
      refine lv_topi (fun z24 ez24 => ?_)
      have hp := cs_bdP ez24 hp
      have hf := cs_bdE ez24 hf
      refine lv_istore_n (lv' := [(2, .int z24), (0, .ref (ad j)), (1, .int x1)]) hx hb d_Mo_stepOf_38 rfl hl (by decide) rfl (fun ls hl => ?_)
      refine lv_aload_n hx hb d_Mo_stepOf_39 rfl (lv_at hl 1 rfl) ?_
      refine gf_Mo_pending hC hw hj wd_572 d_Mo_stepOf_40 ?_
      refine lv_iload_n hx hb d_Mo_stepOf_43 rfl (lv_at hl 2 rfl) ?_
      refine lv_iconst (v := (-1)) hx hb d_Mo_stepOf_44 (by decide) ?_
      have o25 := hp.1
      have hp := hp.2
      refine cs_iast hC hw is_83 o25 d_Mo_stepOf_45 (fun N26 H locs eN26 hw => ?_)
      have hp := cs_bdP eN26 hp
      have hf := cs_bdE eN26 hf
      refine lv_aload_n hx hb d_Mo_stepOf_46 rfl (lv_at hl 1 rfl) ?_
      refine lv_iload_n hx hb d_Mo_stepOf_47 rfl (lv_at hl 2 rfl) ?_
      refine lv_iconst (v := 2) hx hb d_Mo_stepOf_48 (by decide) ?_
      have o27 := hp.1
      have hp := hp.2
      refine cs_ret_v hC hw (cs_runV (As := [.int x1, .int 2]) (rest := []) hC hw hj.2 (ci := 5) rfl rfl (cs_sg_is hj) (c_Mo_leave l D cA ad N26 j hj x1 2 o27 _) rfl rfl cw_Mo_152 ⟨Nat.le_of_ble_eq_true rfl, Nat.le_of_ble_eq_true rfl⟩ hl.1 rfl rfl (Nat.le_of_ble_eq_true rfl) d_Mo_stepOf_49 ⟨Nat.zero_le _, Nat.zero_le _⟩) (fun u28 H locs eu28 hw => ?_)
      have hp := cs_bdP eu28 hp
      have hf := cs_bdE eu28 hf
      refine lv_aload_n hx hb d_Mo_stepOf_52 rfl (lv_at hl 1 rfl) ?_
      refine lv_iload_n hx hb d_Mo_stepOf_53 rfl (lv_at hl 2 rfl) ?_
      refine lv_iload_n hx hb d_Mo_stepOf_54 rfl (lv_at hl 0 rfl) ?_
      have o29 := hp.1
      have hp := hp.2
      refine cs_ret_v hC hw (cs_runV (As := [.int x1, .int z24]) (rest := []) hC hw hj.2 (ci := 5) rfl rfl (cs_sg_is hj) (c_Mo_come l D cA ad u28 j hj x1 z24 o29 _) rfl rfl cw_Mo_142 ⟨Nat.le_of_ble_eq_true rfl, Nat.le_of_ble_eq_true rfl⟩ hl.1 rfl rfl (Nat.le_of_ble_eq_true rfl) d_Mo_stepOf_55 ⟨Nat.zero_le _, Nat.zero_le _⟩) (fun u30 H locs eu30 hw => ?_)
      have hf := cs_bdE eu30 hf
      exact cs_vret hC hw hr hlk hf d_Mo_stepOf_58
    · have hp := hp.2 c22
      have hf := hf.trans (if_neg c22)
      refine lv_bipush (v := 30) hx hb d_Mo_stepOf_20 (by decide) ?_
      refine lv_aload_n hx hb d_Mo_stepOf_22 rfl (lv_at hl 0 rfl) ?_
      refine gf_Mo_pending hC hw hj wd_572 d_Mo_stepOf_23 ?_
      refine lv_iload_n hx hb d_Mo_stepOf_26 rfl (lv_at hl 1 rfl) ?_
      have o31 := hp.1
      have hp := hp.2
      refine cs_iald hC hw is_83 o31 d_Mo_stepOf_27 ?_
      refine lv_iadd hx hb d_Mo_stepOf_28 ?_
      refine lv_goto (tgt := 38) hx hb d_Mo_stepOf_29 (by decide) ?_
      refine lv_topi (fun z32 ez32 => ?_)
      have hp := cs_bdP ez32 hp
      have hf := cs_bdE ez32 hf
      refine lv_istore_n (lv' := [(2, .int z32), (0, .ref (ad j)), (1, .int x1)]) hx hb d_Mo_stepOf_38 rfl hl (by decide) rfl (fun ls hl => ?_)
      refine lv_aload_n hx hb d_Mo_stepOf_39 rfl (lv_at hl 1 rfl) ?_
      refine gf_Mo_pending hC hw hj wd_572 d_Mo_stepOf_40 ?_
      refine lv_iload_n hx hb d_Mo_stepOf_43 rfl (lv_at hl 2 rfl) ?_
      refine lv_iconst (v := (-1)) hx hb d_Mo_stepOf_44 (by decide) ?_
      have o33 := hp.1
      have hp := hp.2
      refine cs_iast hC hw is_83 o33 d_Mo_stepOf_45 (fun N34 H locs eN34 hw => ?_)
      have hp := cs_bdP eN34 hp
      have hf := cs_bdE eN34 hf
      refine lv_aload_n hx hb d_Mo_stepOf_46 rfl (lv_at hl 1 rfl) ?_
      refine lv_iload_n hx hb d_Mo_stepOf_47 rfl (lv_at hl 2 rfl) ?_
      refine lv_iconst (v := 2) hx hb d_Mo_stepOf_48 (by decide) ?_
      have o35 := hp.1
      have hp := hp.2
      refine cs_ret_v hC hw (cs_runV (As := [.int x1, .int 2]) (rest := []) hC hw hj.2 (ci := 5) rfl rfl (cs_sg_is hj) (c_Mo_leave l D cA ad N34 j hj x1 2 o35 _) rfl rfl cw_Mo_152 ⟨Nat.le_of_ble_eq_true rfl, Nat.le_of_ble_eq_true rfl⟩ hl.1 rfl rfl (Nat.le_of_ble_eq_true rfl) d_Mo_stepOf_49 ⟨Nat.zero_le _, Nat.zero_le _⟩) (fun u36 H locs eu36 hw => ?_)
      have hp := cs_bdP eu36 hp
      have hf := cs_bdE eu36 hf
      refine lv_aload_n hx hb d_Mo_stepOf_52 rfl (lv_at hl 1 rfl) ?_
      refine lv_iload_n hx hb d_Mo_stepOf_53 rfl (lv_at hl 2 rfl) ?_
      refine lv_iload_n hx hb d_Mo_stepOf_54 rfl (lv_at hl 0 rfl) ?_
      have o37 := hp.1
      have hp := hp.2
      refine cs_ret_v hC hw (cs_runV (As := [.int x1, .int z32]) (rest := []) hC hw hj.2 (ci := 5) rfl rfl (cs_sg_is hj) (c_Mo_come l D cA ad u36 j hj x1 z32 o37 _) rfl rfl cw_Mo_142 ⟨Nat.le_of_ble_eq_true rfl, Nat.le_of_ble_eq_true rfl⟩ hl.1 rfl rfl (Nat.le_of_ble_eq_true rfl) d_Mo_stepOf_55 ⟨Nat.zero_le _, Nat.zero_le _⟩) (fun u38 H locs eu38 hw => ?_)
      have hf := cs_bdE eu38 hf
      exact cs_vret hC hw hr hlk hf d_Mo_stepOf_58
theorem d_Mo_work_0 : decode prog_8_method_28_code 0 = .ok (.aload_n 0, 1) := by decide +kernel
theorem d_Mo_work_1 : decode prog_8_method_28_code 1 = .ok (.invokevirtual 161, 3) := by decide +kernel
theorem d_Mo_work_4 : decode prog_8_method_28_code 4 = .ok (.iconst 0, 1) := by decide +kernel
theorem d_Mo_work_5 : decode prog_8_method_28_code 5 = .ok (.istore_n 1, 1) := by decide +kernel
theorem d_Mo_work_6 : decode prog_8_method_28_code 6 = .ok (.iload_n 1, 1) := by decide +kernel
theorem d_Mo_work_7 : decode prog_8_method_28_code 7 = .ok (.aload_n 0, 1) := by decide +kernel
theorem d_Mo_work_8 : decode prog_8_method_28_code 8 = .ok (.getfield 164, 3) := by decide +kernel
theorem d_Mo_work_11 : decode prog_8_method_28_code 11 = .ok (.if_icmp .ge 19, 3) := by decide +kernel
theorem d_Mo_work_14 : decode prog_8_method_28_code 14 = .ok (.aload_n 0, 1) := by decide +kernel
theorem d_Mo_work_15 : decode prog_8_method_28_code 15 = .ok (.aload_n 0, 1) := by decide +kernel
theorem d_Mo_work_16 : decode prog_8_method_28_code 16 = .ok (.getfield 50, 3) := by decide +kernel
theorem d_Mo_work_19 : decode prog_8_method_28_code 19 = .ok (.iload_n 1, 1) := by decide +kernel
theorem d_Mo_work_20 : decode prog_8_method_28_code 20 = .ok (.iaload, 1) := by decide +kernel
theorem d_Mo_work_21 : decode prog_8_method_28_code 21 = .ok (.invokevirtual 167, 3) := by decide +kernel
theorem d_Mo_work_24 : decode prog_8_method_28_code 24 = .ok (.iinc 1 1, 3) := by decide +kernel
theorem d_Mo_work_27 : decode prog_8_method_28_code 27 = .ok (.goto (-21), 3) := by decide +kernel
theorem d_Mo_work_30 : decode prog_8_method_28_code 30 = .ok (.return_, 1) := by decide +kernel
def f_Mo_work_L6 : Nat → cs_Mem → Nat → Int32 → cs_Mem
  | 0, M, j, y1 => M
  | fuel + 1, M, j, y1 =>
    if (M j 15) ≤ y1 then
      M
    else
      cs_bd (f_Mo_stepOf M j (M 76 y1.toNatClampNeg)) fun (u6 : cs_Mem) =>
      cs_bd (y1 + 1) fun (z7 : Int32) =>
      f_Mo_work_L6 fuel u6 j z7
def pre_Mo_work_L6 : Nat → cs_Mem → Nat → Int32 → Prop
  | 0, _, _, _ => False
  | fuel + 1, M, j, y1 =>
    ((M j 15) ≤ y1 →
      True
    ) ∧ (¬ ((M j 15) ≤ y1) →
      (vp_in y1 (cs_ln M 76)) ∧
      (pre_Mo_stepOf M j (M 76 y1.toNatClampNeg)) ∧
      cs_bd (f_Mo_stepOf M j (M 76 y1.toNatClampNeg)) fun (u6 : cs_Mem) =>
      cs_bd (y1 + 1) fun (z7 : Int32) =>
      pre_Mo_work_L6 fuel u6 j z7
    )
def f_Mo_work (M : cs_Mem) (j : Nat) : cs_Mem :=
  cs_bd (f_Mo_start M j) fun (u2 : cs_Mem) =>
  f_Mo_work_L6 600 u2 j 0
def pre_Mo_work (M : cs_Mem) (j : Nat) : Prop :=
  (pre_Mo_start M j) ∧
  cs_bd (f_Mo_start M j) fun (u2 : cs_Mem) =>
  pre_Mo_work_L6 600 u2 j 0
set_option maxHeartbeats 4000000 in
set_option maxRecDepth 100000 in
theorem w_Mo_work_L6 {p : Program} {l : Launch} {e : Env} {s : State} {m : MethodId} {args : Array Value} {below : List Frame} {meth : Method} {c : Code} {D : va_G} {cA : Nat → ClassId} {A : Nat → Prop} {ad : Nat → Nat} {F : cs_Mem} (hC : cs_Ctx p s m args c prog_8_method_28_code 2 "ClassStarterModel" D cA A) (hr : meth.sig.returnType = none) (hlk : meth.locks = false) (fuel : Nat) : ∀ (M : cs_Mem) (j : Nat) (y1 : Int32) (H : Heap) (locs : List Loc) (ls : Array Slot), cs_Wd D cA ad M A s H locs → lv_has ls 2 [(0, .ref (ad j)), (1, .int y1)] → cs_is 5 j → pre_Mo_work_L6 fuel M j y1 → F = f_Mo_work_L6 fuel M j y1 → W p l e ({ frames := 6, cells := 0, slots := 0, locals := 140 }) s m args below meth c H locs 0 0 (MQ below (cs_Qv D cA ad F A) args s 0 0 A) (F0 m 6 ls []) := by
  have hx := hC.1
  have hb := hC.2.1
  induction fuel with
  | zero =>
    intro M j y1 H locs ls hw hl g0 hp hf
    exact absurd hp (by simp [pre_Mo_work_L6])
  | succ fuel ih =>
    intro M j y1 H locs ls hw hl g0 hp hf
    rw [f_Mo_work_L6] at hf
    rw [pre_Mo_work_L6] at hp
    refine lv_iload_n hx hb d_Mo_work_6 rfl (lv_at hl 1 rfl) ?_
    refine lv_aload_n hx hb d_Mo_work_7 rfl (lv_at hl 0 rfl) ?_
    refine gf_Mo_steps hC hw g0 wd_564 d_Mo_work_8 ?_
    refine lv_icmp_ge (tgt := 30) hx hb d_Mo_work_11 (by decide) (fun c3 => ?_) (fun c3 => ?_)
    · have hp := hp.1 c3
      have hf := hf.trans (if_pos c3)
      exact cs_vret hC hw hr hlk hf d_Mo_work_30
    · have hp := hp.2 c3
      have hf := hf.trans (if_neg c3)
      refine lv_aload_n hx hb d_Mo_work_14 rfl (lv_at hl 0 rfl) ?_
      refine lv_aload_n hx hb d_Mo_work_15 rfl (lv_at hl 0 rfl) ?_
      refine gf_Mo_made hC hw g0 wd_563 d_Mo_work_16 ?_
      refine lv_iload_n hx hb d_Mo_work_19 rfl (lv_at hl 1 rfl) ?_
      have o4 := hp.1
      have hp := hp.2
      refine cs_iald hC hw is_76 o4 d_Mo_work_20 ?_
      have o5 := hp.1
      have hp := hp.2
      refine cs_ret_v hC hw (cs_runV (As := [.int (M 76 y1.toNatClampNeg)]) (rest := []) hC hw g0.2 (ci := 5) rfl rfl (cs_sg_is g0) (c_Mo_stepOf l D cA ad M j g0 (M 76 y1.toNatClampNeg) o5 _) rfl rfl cw_Mo_167 ⟨Nat.le_of_ble_eq_true rfl, Nat.le_of_ble_eq_true rfl⟩ hl.1 rfl rfl (Nat.le_of_ble_eq_true rfl) d_Mo_work_21 ⟨Nat.zero_le _, Nat.zero_le _⟩) (fun u6 H locs eu6 hw => ?_)
      have hp := cs_bdP eu6 hp
      have hf := cs_bdE eu6 hf
      obtain ⟨z7, ez7⟩ : ∃ y : Int32, y = y1 + 1 := ⟨_, rfl⟩
      have hp := cs_bdP ez7 hp
      have hf := cs_bdE ez7 hf
      refine lv_iinc (v := z7) (lv' := [(1, .int z7), (0, .ref (ad j))]) hx hb d_Mo_work_24 hl (k := 1) rfl (by rw [ez7]; rfl) (by decide) rfl (fun ls hl => ?_)
      refine lv_goto (tgt := 6) hx hb d_Mo_work_27 (by decide) ?_
      exact ih u6 j z7 _ _ ls hw (lv_sub hl [1, 0] rfl) g0 hp hf
set_option maxHeartbeats 4000000 in
set_option maxRecDepth 100000 in
theorem c_Mo_work (l : Launch) (D : va_G) (cA : Nat → ClassId) (ad : Nat → Nat) (M : cs_Mem) (j : Nat) (hj : cs_is 5 j) (hp : pre_Mo_work M j) : cs_Cv l ⟨"ClassStarterModel", "work", "()V"⟩ prog_8_method_28_code 2 none ({ frames := 6, cells := 0, slots := 0, locals := 140 }) D cA ad M [.ref (ad j)] (f_Mo_work M j) := by
  refine cs_entry (by decide) (Nat.le_of_ble_eq_true rfl) (fun p e s m below meth c A ls hC hr hlk _ hw hl => ?_)
  have hx := hC.1
  have hb := hC.2.1
  have hl : lv_has ls 2 [(0, .ref (ad j))] := hl
  generalize hF : f_Mo_work M j = F
  have hf := hF.symm
  unfold f_Mo_work at hf
  unfold pre_Mo_work at hp
  refine lv_aload_n hx hb d_Mo_work_0 rfl (lv_at hl 0 rfl) ?_
  have o1 := hp.1
  have hp := hp.2
  refine cs_ret_v hC hw (cs_runV (As := []) (rest := []) hC hw hj.2 (ci := 5) rfl rfl (cs_sg_is hj) (c_Mo_start l D cA ad M j hj o1 _) rfl rfl cw_Mo_161 ⟨Nat.le_of_ble_eq_true rfl, Nat.le_of_ble_eq_true rfl⟩ hl.1 rfl rfl (Nat.le_of_ble_eq_true rfl) d_Mo_work_1 ⟨Nat.zero_le _, Nat.zero_le _⟩) (fun u2 H locs eu2 hw => ?_)
  have hp := cs_bdP eu2 hp
  have hf := cs_bdE eu2 hf
  refine lv_iconst (v := 0) hx hb d_Mo_work_4 (by decide) ?_
  refine lv_istore_n (lv' := [(1, .int 0), (0, .ref (ad j))]) hx hb d_Mo_work_5 rfl hl (by decide) rfl (fun ls hl => ?_)
  exact w_Mo_work_L6 hC hr hlk 600 u2 j 0 _ _ ls hw (lv_sub hl [1, 0] rfl) hj hp hf
