theorem d_Ma_restart_0 : decode prog_4_method_2_code 0 = .ok (.aload_n 0, 1) := by decide +kernel
theorem d_Ma_restart_1 : decode prog_4_method_2_code 1 = .ok (.getfield 11, 3) := by decide +kernel
theorem d_Ma_restart_4 : decode prog_4_method_2_code 4 = .ok (.iconst 0, 1) := by decide +kernel
theorem d_Ma_restart_5 : decode prog_4_method_2_code 5 = .ok (.invokestatic 25, 3) := by decide +kernel
theorem d_Ma_restart_8 : decode prog_4_method_2_code 8 = .ok (.iconst 0, 1) := by decide +kernel
theorem d_Ma_restart_9 : decode prog_4_method_2_code 9 = .ok (.istore_n 1, 1) := by decide +kernel
theorem d_Ma_restart_10 : decode prog_4_method_2_code 10 = .ok (.iload_n 1, 1) := by decide +kernel
theorem d_Ma_restart_11 : decode prog_4_method_2_code 11 = .ok (.iconst 3, 1) := by decide +kernel
theorem d_Ma_restart_12 : decode prog_4_method_2_code 12 = .ok (.if_icmp .ge 22, 3) := by decide +kernel
theorem d_Ma_restart_15 : decode prog_4_method_2_code 15 = .ok (.aload_n 0, 1) := by decide +kernel
theorem d_Ma_restart_16 : decode prog_4_method_2_code 16 = .ok (.getfield 11, 3) := by decide +kernel
theorem d_Ma_restart_19 : decode prog_4_method_2_code 19 = .ok (.bipush 35, 2) := by decide +kernel
theorem d_Ma_restart_21 : decode prog_4_method_2_code 21 = .ok (.iload_n 1, 1) := by decide +kernel
theorem d_Ma_restart_22 : decode prog_4_method_2_code 22 = .ok (.iadd, 1) := by decide +kernel
theorem d_Ma_restart_23 : decode prog_4_method_2_code 23 = .ok (.bipush 8, 2) := by decide +kernel
theorem d_Ma_restart_25 : decode prog_4_method_2_code 25 = .ok (.iload_n 1, 1) := by decide +kernel
theorem d_Ma_restart_26 : decode prog_4_method_2_code 26 = .ok (.iadd, 1) := by decide +kernel
theorem d_Ma_restart_27 : decode prog_4_method_2_code 27 = .ok (.iastore, 1) := by decide +kernel
theorem d_Ma_restart_28 : decode prog_4_method_2_code 28 = .ok (.iinc 1 1, 3) := by decide +kernel
theorem d_Ma_restart_31 : decode prog_4_method_2_code 31 = .ok (.goto (-21), 3) := by decide +kernel
theorem d_Ma_restart_34 : decode prog_4_method_2_code 34 = .ok (.return_, 1) := by decide +kernel
def f_Ma_restart_L10 : Nat → cs_Mem → Nat → Int32 → cs_Mem
  | 0, M, j, y1 => M
  | fuel + 1, M, j, y1 =>
    if 3 ≤ y1 then
      M
    else
      cs_bd (cs_up M (j + 1) (upd (M (j + 1)) (35 + y1).toNatClampNeg (8 + y1))) fun (N5 : cs_Mem) =>
      cs_bd (y1 + 1) fun (z6 : Int32) =>
      f_Ma_restart_L10 fuel N5 j z6
def pre_Ma_restart_L10 : Nat → cs_Mem → Nat → Int32 → Prop
  | 0, _, _, _ => False
  | fuel + 1, M, j, y1 =>
    (3 ≤ y1 →
      True
    ) ∧ (¬ (3 ≤ y1) →
      (vp_in (35 + y1) (cs_ln M (j + 1))) ∧
      cs_bd (cs_up M (j + 1) (upd (M (j + 1)) (35 + y1).toNatClampNeg (8 + y1))) fun (N5 : cs_Mem) =>
      cs_bd (y1 + 1) fun (z6 : Int32) =>
      pre_Ma_restart_L10 fuel N5 j z6
    )
def f_Ma_restart (M : cs_Mem) (j : Nat) : cs_Mem :=
  cs_bd (f_Ar_fill M (j + 1) 0) fun (u2 : cs_Mem) =>
  f_Ma_restart_L10 5 u2 j 0
def pre_Ma_restart (M : cs_Mem) (j : Nat) : Prop :=
  (pre_Ar_fill M (j + 1) 0) ∧
  cs_bd (f_Ar_fill M (j + 1) 0) fun (u2 : cs_Mem) =>
  pre_Ma_restart_L10 5 u2 j 0
set_option maxHeartbeats 4000000 in
set_option maxRecDepth 100000 in
theorem w_Ma_restart_L10 {p : Program} {l : Launch} {e : Env} {s : State} {m : MethodId} {args : Array Value} {below : List Frame} {meth : Method} {c : Code} {D : va_G} {cA : Nat → ClassId} {A : Nat → Prop} {ad : Nat → Nat} {F : cs_Mem} (hC : cs_Ctx p s m args c prog_4_method_2_code 2 "ClassStarter$Machine" D cA A) (hr : meth.sig.returnType = none) (hlk : meth.locks = false) (fuel : Nat) : ∀ (M : cs_Mem) (j : Nat) (y1 : Int32) (H : Heap) (locs : List Loc) (ls : Array Slot), cs_Wd D cA ad M A s H locs → lv_has ls 2 [(0, .ref (ad j)), (1, .int y1)] → cs_is 3 j → pre_Ma_restart_L10 fuel M j y1 → F = f_Ma_restart_L10 fuel M j y1 → W p l e ({ frames := 1, cells := 0, slots := 0, locals := 23 }) s m args below meth c H locs 0 0 (MQ below (cs_Qv D cA ad F A) args s 0 0 A) (F0 m 10 ls []) := by
  have hx := hC.1
  have hb := hC.2.1
  induction fuel with
  | zero =>
    intro M j y1 H locs ls hw hl g0 hp hf
    exact absurd hp (by simp [pre_Ma_restart_L10])
  | succ fuel ih =>
    intro M j y1 H locs ls hw hl g0 hp hf
    rw [f_Ma_restart_L10] at hf
    rw [pre_Ma_restart_L10] at hp
    refine lv_iload_n hx hb d_Ma_restart_10 rfl (lv_at hl 1 rfl) ?_
    refine lv_iconst (v := 3) hx hb d_Ma_restart_11 (by decide) ?_
    refine lv_icmp_ge (tgt := 34) hx hb d_Ma_restart_12 (by decide) (fun c3 => ?_) (fun c3 => ?_)
    · have hp := hp.1 c3
      have hf := hf.trans (if_pos c3)
      exact cs_vret hC hw hr hlk hf d_Ma_restart_34
    · have hp := hp.2 c3
      have hf := hf.trans (if_neg c3)
      refine lv_aload_n hx hb d_Ma_restart_15 rfl (lv_at hl 0 rfl) ?_
      refine gf_Ma_cells hC hw g0 wd_131 d_Ma_restart_16 ?_
      refine lv_bipush (v := 35) hx hb d_Ma_restart_19 (by decide) ?_
      refine lv_iload_n hx hb d_Ma_restart_21 rfl (lv_at hl 1 rfl) ?_
      refine lv_iadd hx hb d_Ma_restart_22 ?_
      refine lv_bipush (v := 8) hx hb d_Ma_restart_23 (by decide) ?_
      refine lv_iload_n hx hb d_Ma_restart_25 rfl (lv_at hl 1 rfl) ?_
      refine lv_iadd hx hb d_Ma_restart_26 ?_
      have o4 := hp.1
      have hp := hp.2
      refine cs_iast hC hw (is_Ma1 g0) o4 d_Ma_restart_27 (fun N5 H locs eN5 hw => ?_)
      have hp := cs_bdP eN5 hp
      have hf := cs_bdE eN5 hf
      obtain ⟨z6, ez6⟩ : ∃ y : Int32, y = y1 + 1 := ⟨_, rfl⟩
      have hp := cs_bdP ez6 hp
      have hf := cs_bdE ez6 hf
      refine lv_iinc (v := z6) (lv' := [(1, .int z6), (0, .ref (ad j))]) hx hb d_Ma_restart_28 hl (k := 1) rfl (by rw [ez6]; rfl) (by decide) rfl (fun ls hl => ?_)
      refine lv_goto (tgt := 10) hx hb d_Ma_restart_31 (by decide) ?_
      exact ih N5 j z6 _ _ ls hw (lv_sub hl [1, 0] rfl) g0 hp hf
set_option maxHeartbeats 4000000 in
set_option maxRecDepth 100000 in
theorem c_Ma_restart (l : Launch) (D : va_G) (cA : Nat → ClassId) (ad : Nat → Nat) (M : cs_Mem) (j : Nat) (hj : cs_is 3 j) (hp : pre_Ma_restart M j) : cs_Cv l ⟨"ClassStarter$Machine", "restart", "()V"⟩ prog_4_method_2_code 2 none ({ frames := 1, cells := 0, slots := 0, locals := 23 }) D cA ad M [.ref (ad j)] (f_Ma_restart M j) := by
  refine cs_entry (by decide) (Nat.le_of_ble_eq_true rfl) (fun p e s m below meth c A ls hC hr hlk _ hw hl => ?_)
  have hx := hC.1
  have hb := hC.2.1
  have hl : lv_has ls 2 [(0, .ref (ad j))] := hl
  generalize hF : f_Ma_restart M j = F
  have hf := hF.symm
  unfold f_Ma_restart at hf
  unfold pre_Ma_restart at hp
  refine lv_aload_n hx hb d_Ma_restart_0 rfl (lv_at hl 0 rfl) ?_
  refine gf_Ma_cells hC hw hj wd_131 d_Ma_restart_1 ?_
  refine lv_iconst (v := 0) hx hb d_Ma_restart_4 (by decide) ?_
  have o1 := hp.1
  have hp := hp.2
  refine cs_ret_v hC hw (cs_runS (As := [.ref (ad (j + 1)), .int 0]) (rest := []) hC hw (c_Ar_fill l D cA ad M (j + 1) (is_Ma1 hj) 0 o1 _) rfl rfl cw_Ma_25 ⟨Nat.le_of_ble_eq_true rfl, Nat.le_of_ble_eq_true rfl⟩ hl.1 rfl rfl (Nat.le_of_ble_eq_true rfl) d_Ma_restart_5 ⟨Nat.zero_le _, Nat.zero_le _⟩) (fun u2 H locs eu2 hw => ?_)
  have hp := cs_bdP eu2 hp
  have hf := cs_bdE eu2 hf
  refine lv_iconst (v := 0) hx hb d_Ma_restart_8 (by decide) ?_
  refine lv_istore_n (lv' := [(1, .int 0), (0, .ref (ad j))]) hx hb d_Ma_restart_9 rfl hl (by decide) rfl (fun ls hl => ?_)
  exact w_Ma_restart_L10 hC hr hlk 5 u2 j 0 _ _ ls hw (lv_sub hl [1, 0] rfl) hj hp hf
theorem d_Ma_hasBegun_0 : decode prog_4_method_6_code 0 = .ok (.aload_n 0, 1) := by decide +kernel
theorem d_Ma_hasBegun_1 : decode prog_4_method_6_code 1 = .ok (.getfield 11, 3) := by decide +kernel
theorem d_Ma_hasBegun_4 : decode prog_4_method_6_code 4 = .ok (.bipush 41, 2) := by decide +kernel
theorem d_Ma_hasBegun_6 : decode prog_4_method_6_code 6 = .ok (.iaload, 1) := by decide +kernel
theorem d_Ma_hasBegun_7 : decode prog_4_method_6_code 7 = .ok (.ifCond .le 7, 3) := by decide +kernel
theorem d_Ma_hasBegun_10 : decode prog_4_method_6_code 10 = .ok (.iconst 1, 1) := by decide +kernel
theorem d_Ma_hasBegun_11 : decode prog_4_method_6_code 11 = .ok (.goto 4, 3) := by decide +kernel
theorem d_Ma_hasBegun_14 : decode prog_4_method_6_code 14 = .ok (.iconst 0, 1) := by decide +kernel
theorem d_Ma_hasBegun_15 : decode prog_4_method_6_code 15 = .ok (.ireturn, 1) := by decide +kernel
def f_Ma_hasBegun (M : cs_Mem) (j : Nat) : Int32 :=
  if (M (j + 1) 41) ≤ 0 then
    0
  else
    1
def pre_Ma_hasBegun (M : cs_Mem) (j : Nat) : Prop :=
  (vp_in 41 (cs_ln M (j + 1))) ∧
  True
set_option maxHeartbeats 4000000 in
set_option maxRecDepth 100000 in
theorem c_Ma_hasBegun (l : Launch) (D : va_G) (cA : Nat → ClassId) (ad : Nat → Nat) (M : cs_Mem) (j : Nat) (hj : cs_is 3 j) (hp : pre_Ma_hasBegun M j) : cs_Ci l ⟨"ClassStarter$Machine", "hasBegun", "()Z"⟩ prog_4_method_6_code 1 (some .boolean) ({ frames := 0, cells := 0, slots := 0, locals := 0 }) D cA ad M [.ref (ad j)] ((f_Ma_hasBegun M j, M)) := by
  refine cs_entry (by decide) (Nat.le_of_ble_eq_true rfl) (fun p e s m below meth c A ls hC hr hlk _ hw hl => ?_)
  have hx := hC.1
  have hb := hC.2.1
  have hl : lv_has ls 1 [(0, .ref (ad j))] := hl
  generalize hF : f_Ma_hasBegun M j = F
  have hf := hF.symm
  unfold f_Ma_hasBegun at hf
  unfold pre_Ma_hasBegun at hp
  refine lv_aload_n hx hb d_Ma_hasBegun_0 rfl (lv_at hl 0 rfl) ?_
  refine gf_Ma_cells hC hw hj wd_131 d_Ma_hasBegun_1 ?_
  refine lv_bipush (v := 41) hx hb d_Ma_hasBegun_4 (by decide) ?_
  have o1 := hp.1
  have hp := hp.2
  refine cs_iald hC hw (is_Ma1 hj) o1 d_Ma_hasBegun_6 ?_
  refine lv_if_le (tgt := 14) hx hb d_Ma_hasBegun_7 (by decide) (fun c2 => ?_) (fun c2 => ?_)
  · have hf := hf.trans (if_pos c2)
    refine lv_iconst (v := 0) hx hb d_Ma_hasBegun_14 (by decide) ?_
    exact cs_zret hC hw hr hlk (Or.inl rfl) (congrArg (fun z => (z, M)) hf) d_Ma_hasBegun_15
  · have hf := hf.trans (if_neg c2)
    refine lv_iconst (v := 1) hx hb d_Ma_hasBegun_10 (by decide) ?_
    refine lv_goto (tgt := 15) hx hb d_Ma_hasBegun_11 (by decide) ?_
    exact cs_zret hC hw hr hlk (Or.inr rfl) (congrArg (fun z => (z, M)) hf) d_Ma_hasBegun_15
theorem d_Ma_isInClass_0 : decode prog_4_method_12_code 0 = .ok (.aload_n 0, 1) := by decide +kernel
theorem d_Ma_isInClass_1 : decode prog_4_method_12_code 1 = .ok (.getfield 11, 3) := by decide +kernel
theorem d_Ma_isInClass_4 : decode prog_4_method_12_code 4 = .ok (.bipush 35, 2) := by decide +kernel
theorem d_Ma_isInClass_6 : decode prog_4_method_12_code 6 = .ok (.iload_n 1, 1) := by decide +kernel
theorem d_Ma_isInClass_7 : decode prog_4_method_12_code 7 = .ok (.iadd, 1) := by decide +kernel
theorem d_Ma_isInClass_8 : decode prog_4_method_12_code 8 = .ok (.iaload, 1) := by decide +kernel
theorem d_Ma_isInClass_9 : decode prog_4_method_12_code 9 = .ok (.bipush 8, 2) := by decide +kernel
theorem d_Ma_isInClass_11 : decode prog_4_method_12_code 11 = .ok (.if_icmp .ge 7, 3) := by decide +kernel
theorem d_Ma_isInClass_14 : decode prog_4_method_12_code 14 = .ok (.iconst 1, 1) := by decide +kernel
theorem d_Ma_isInClass_15 : decode prog_4_method_12_code 15 = .ok (.goto 4, 3) := by decide +kernel
theorem d_Ma_isInClass_18 : decode prog_4_method_12_code 18 = .ok (.iconst 0, 1) := by decide +kernel
theorem d_Ma_isInClass_19 : decode prog_4_method_12_code 19 = .ok (.ireturn, 1) := by decide +kernel
def f_Ma_isInClass (M : cs_Mem) (j : Nat) (x1 : Int32) : Int32 :=
  if 8 ≤ (M (j + 1) (35 + x1).toNatClampNeg) then
    0
  else
    1
def pre_Ma_isInClass (M : cs_Mem) (j : Nat) (x1 : Int32) : Prop :=
  (vp_in (35 + x1) (cs_ln M (j + 1))) ∧
  True
set_option maxHeartbeats 4000000 in
set_option maxRecDepth 100000 in
theorem c_Ma_isInClass (l : Launch) (D : va_G) (cA : Nat → ClassId) (ad : Nat → Nat) (M : cs_Mem) (j : Nat) (hj : cs_is 3 j) (x1 : Int32) (hp : pre_Ma_isInClass M j x1) : cs_Ci l ⟨"ClassStarter$Machine", "isInClass", "(I)Z"⟩ prog_4_method_12_code 2 (some .boolean) ({ frames := 0, cells := 0, slots := 0, locals := 0 }) D cA ad M [.ref (ad j), .int x1] ((f_Ma_isInClass M j x1, M)) := by
  refine cs_entry (by decide) (Nat.le_of_ble_eq_true rfl) (fun p e s m below meth c A ls hC hr hlk _ hw hl => ?_)
  have hx := hC.1
  have hb := hC.2.1
  have hl : lv_has ls 2 [(0, .ref (ad j)), (1, .int x1)] := hl
  generalize hF : f_Ma_isInClass M j x1 = F
  have hf := hF.symm
  unfold f_Ma_isInClass at hf
  unfold pre_Ma_isInClass at hp
  refine lv_aload_n hx hb d_Ma_isInClass_0 rfl (lv_at hl 0 rfl) ?_
  refine gf_Ma_cells hC hw hj wd_131 d_Ma_isInClass_1 ?_
  refine lv_bipush (v := 35) hx hb d_Ma_isInClass_4 (by decide) ?_
  refine lv_iload_n hx hb d_Ma_isInClass_6 rfl (lv_at hl 1 rfl) ?_
  refine lv_iadd hx hb d_Ma_isInClass_7 ?_
  have o1 := hp.1
  have hp := hp.2
  refine cs_iald hC hw (is_Ma1 hj) o1 d_Ma_isInClass_8 ?_
  refine lv_bipush (v := 8) hx hb d_Ma_isInClass_9 (by decide) ?_
  refine lv_icmp_ge (tgt := 18) hx hb d_Ma_isInClass_11 (by decide) (fun c2 => ?_) (fun c2 => ?_)
  · have hf := hf.trans (if_pos c2)
    refine lv_iconst (v := 0) hx hb d_Ma_isInClass_18 (by decide) ?_
    exact cs_zret hC hw hr hlk (Or.inl rfl) (congrArg (fun z => (z, M)) hf) d_Ma_isInClass_19
  · have hf := hf.trans (if_neg c2)
    refine lv_iconst (v := 1) hx hb d_Ma_isInClass_14 (by decide) ?_
    refine lv_goto (tgt := 19) hx hb d_Ma_isInClass_15 (by decide) ?_
    exact cs_zret hC hw hr hlk (Or.inr rfl) (congrArg (fun z => (z, M)) hf) d_Ma_isInClass_19
theorem d_Ma_topFrame_0 : decode prog_4_method_11_code 0 = .ok (.aload_n 0, 1) := by decide +kernel
theorem d_Ma_topFrame_1 : decode prog_4_method_11_code 1 = .ok (.getfield 11, 3) := by decide +kernel
theorem d_Ma_topFrame_4 : decode prog_4_method_11_code 4 = .ok (.bipush 35, 2) := by decide +kernel
theorem d_Ma_topFrame_6 : decode prog_4_method_11_code 6 = .ok (.iload_n 1, 1) := by decide +kernel
theorem d_Ma_topFrame_7 : decode prog_4_method_11_code 7 = .ok (.iadd, 1) := by decide +kernel
theorem d_Ma_topFrame_8 : decode prog_4_method_11_code 8 = .ok (.iaload, 1) := by decide +kernel
theorem d_Ma_topFrame_9 : decode prog_4_method_11_code 9 = .ok (.ireturn, 1) := by decide +kernel
def f_Ma_topFrame (M : cs_Mem) (j : Nat) (x1 : Int32) : Int32 :=
  M (j + 1) (35 + x1).toNatClampNeg
def pre_Ma_topFrame (M : cs_Mem) (j : Nat) (x1 : Int32) : Prop :=
  (vp_in (35 + x1) (cs_ln M (j + 1))) ∧
  True
set_option maxHeartbeats 4000000 in
set_option maxRecDepth 100000 in
theorem c_Ma_topFrame (l : Launch) (D : va_G) (cA : Nat → ClassId) (ad : Nat → Nat) (M : cs_Mem) (j : Nat) (hj : cs_is 3 j) (x1 : Int32) (hp : pre_Ma_topFrame M j x1) : cs_Ci l ⟨"ClassStarter$Machine", "topFrame", "(I)I"⟩ prog_4_method_11_code 2 (some .int) ({ frames := 0, cells := 0, slots := 0, locals := 0 }) D cA ad M [.ref (ad j), .int x1] ((f_Ma_topFrame M j x1, M)) := by
  refine cs_entry (by decide) (Nat.le_of_ble_eq_true rfl) (fun p e s m below meth c A ls hC hr hlk _ hw hl => ?_)
  have hx := hC.1
  have hb := hC.2.1
  have hl : lv_has ls 2 [(0, .ref (ad j)), (1, .int x1)] := hl
  generalize hF : f_Ma_topFrame M j x1 = F
  have hf := hF.symm
  unfold f_Ma_topFrame at hf
  unfold pre_Ma_topFrame at hp
  refine lv_aload_n hx hb d_Ma_topFrame_0 rfl (lv_at hl 0 rfl) ?_
  refine gf_Ma_cells hC hw hj wd_131 d_Ma_topFrame_1 ?_
  refine lv_bipush (v := 35) hx hb d_Ma_topFrame_4 (by decide) ?_
  refine lv_iload_n hx hb d_Ma_topFrame_6 rfl (lv_at hl 1 rfl) ?_
  refine lv_iadd hx hb d_Ma_topFrame_7 ?_
  have o1 := hp.1
  have hp := hp.2
  refine cs_iald hC hw (is_Ma1 hj) o1 d_Ma_topFrame_8 ?_
  exact cs_iret hC hw hr hlk (congrArg (fun z => (z, M)) hf) d_Ma_topFrame_9
theorem d_Ma_isBehindLast_0 : decode prog_4_method_14_code 0 = .ok (.aload_n 0, 1) := by decide +kernel
theorem d_Ma_isBehindLast_1 : decode prog_4_method_14_code 1 = .ok (.getfield 11, 3) := by decide +kernel
theorem d_Ma_isBehindLast_4 : decode prog_4_method_14_code 4 = .ok (.bipush 24, 2) := by decide +kernel
theorem d_Ma_isBehindLast_6 : decode prog_4_method_14_code 6 = .ok (.iload_n 1, 1) := by decide +kernel
theorem d_Ma_isBehindLast_7 : decode prog_4_method_14_code 7 = .ok (.iadd, 1) := by decide +kernel
theorem d_Ma_isBehindLast_8 : decode prog_4_method_14_code 8 = .ok (.iaload, 1) := by decide +kernel
theorem d_Ma_isBehindLast_9 : decode prog_4_method_14_code 9 = .ok (.aload_n 0, 1) := by decide +kernel
theorem d_Ma_isBehindLast_10 : decode prog_4_method_14_code 10 = .ok (.getfield 18, 3) := by decide +kernel
theorem d_Ma_isBehindLast_13 : decode prog_4_method_14_code 13 = .ok (.iload_n 1, 1) := by decide +kernel
theorem d_Ma_isBehindLast_14 : decode prog_4_method_14_code 14 = .ok (.invokevirtual 53, 3) := by decide +kernel
theorem d_Ma_isBehindLast_17 : decode prog_4_method_14_code 17 = .ok (.invokevirtual 57, 3) := by decide +kernel
theorem d_Ma_isBehindLast_20 : decode prog_4_method_14_code 20 = .ok (.if_icmp .lt 7, 3) := by decide +kernel
theorem d_Ma_isBehindLast_23 : decode prog_4_method_14_code 23 = .ok (.iconst 1, 1) := by decide +kernel
theorem d_Ma_isBehindLast_24 : decode prog_4_method_14_code 24 = .ok (.goto 4, 3) := by decide +kernel
theorem d_Ma_isBehindLast_27 : decode prog_4_method_14_code 27 = .ok (.iconst 0, 1) := by decide +kernel
theorem d_Ma_isBehindLast_28 : decode prog_4_method_14_code 28 = .ok (.ireturn, 1) := by decide +kernel
def f_Ma_isBehindLast (M : cs_Mem) (j : Nat) (x1 : Int32) : Int32 :=
  cs_bd (f_Pr_script M 1 x1) fun (r3 : Nat) =>
  cs_bd (f_Sc_length M r3) fun (r4 : Int32) =>
  if (M (j + 1) (24 + x1).toNatClampNeg) < r4 then
    0
  else
    1
def pre_Ma_isBehindLast (M : cs_Mem) (j : Nat) (x1 : Int32) : Prop :=
  (vp_in (24 + x1) (cs_ln M (j + 1))) ∧
  (pre_Pr_script M 1 x1) ∧
  True
set_option maxHeartbeats 4000000 in
set_option maxRecDepth 100000 in
theorem c_Ma_isBehindLast (l : Launch) (D : va_G) (cA : Nat → ClassId) (ad : Nat → Nat) (M : cs_Mem) (j : Nat) (hj : cs_is 3 j) (x1 : Int32) (hp : pre_Ma_isBehindLast M j x1) : cs_Ci l ⟨"ClassStarter$Machine", "isBehindLast", "(I)Z"⟩ prog_4_method_14_code 2 (some .boolean) ({ frames := 1, cells := 0, slots := 0, locals := 21 }) D cA ad M [.ref (ad j), .int x1] ((f_Ma_isBehindLast M j x1, M)) := by
  refine cs_entry (by decide) (Nat.le_of_ble_eq_true rfl) (fun p e s m below meth c A ls hC hr hlk _ hw hl => ?_)
  have hx := hC.1
  have hb := hC.2.1
  have hl : lv_has ls 2 [(0, .ref (ad j)), (1, .int x1)] := hl
  generalize hF : f_Ma_isBehindLast M j x1 = F
  have hf := hF.symm
  unfold f_Ma_isBehindLast at hf
  unfold pre_Ma_isBehindLast at hp
  refine lv_aload_n hx hb d_Ma_isBehindLast_0 rfl (lv_at hl 0 rfl) ?_
  refine gf_Ma_cells hC hw hj wd_131 d_Ma_isBehindLast_1 ?_
  refine lv_bipush (v := 24) hx hb d_Ma_isBehindLast_4 (by decide) ?_
  refine lv_iload_n hx hb d_Ma_isBehindLast_6 rfl (lv_at hl 1 rfl) ?_
  refine lv_iadd hx hb d_Ma_isBehindLast_7 ?_
  have o1 := hp.1
  have hp := hp.2
  refine cs_iald hC hw (is_Ma1 hj) o1 d_Ma_isBehindLast_8 ?_
  refine lv_aload_n hx hb d_Ma_isBehindLast_9 rfl (lv_at hl 0 rfl) ?_
  refine gf_Ma_program hC hw hj wd_130 d_Ma_isBehindLast_10 ?_
  refine lv_iload_n hx hb d_Ma_isBehindLast_13 rfl (lv_at hl 1 rfl) ?_
  have o2 := hp.1
  have hp := hp.2
  refine cs_ret_rp hC hw (cs_runV (As := [.int x1]) (rest := [.int (M (j + 1) (24 + x1).toNatClampNeg)]) hC hw is_1.2 (ci := 1) rfl rfl (cs_sg_is is_1) (c_Pr_script l D cA ad M 1 is_1 x1 o2 _) rfl rfl cw_Ma_53 ⟨Nat.le_of_ble_eq_true rfl, Nat.le_of_ble_eq_true rfl⟩ hl.1 rfl rfl (Nat.le_of_ble_eq_true rfl) d_Ma_isBehindLast_14 ⟨Nat.zero_le _, Nat.zero_le _⟩) (fun r3 H locs er3 hw => ?_)
  have hf := cs_bdE er3 hf
  refine cs_ret_p hC hw (cs_runV (As := []) (rest := [.int (M (j + 1) (24 + x1).toNatClampNeg)]) hC hw (is_script er3 o2).2 (ci := 2) rfl rfl (cs_sg_is (is_script er3 o2)) (c_Sc_length l D cA ad M r3 (is_script er3 o2) _) rfl rfl cw_Ma_57 ⟨Nat.le_of_ble_eq_true rfl, Nat.le_of_ble_eq_true rfl⟩ hl.1 rfl rfl (Nat.le_of_ble_eq_true rfl) d_Ma_isBehindLast_17 ⟨Nat.zero_le _, Nat.zero_le _⟩) (fun r4 H locs er4 hw => ?_)
  have hf := cs_bdE er4 hf
  refine lv_icmp_lt (tgt := 27) hx hb d_Ma_isBehindLast_20 (by decide) (fun c5 => ?_) (fun c5 => ?_)
  · have hf := hf.trans (if_pos c5)
    refine lv_iconst (v := 0) hx hb d_Ma_isBehindLast_27 (by decide) ?_
    exact cs_zret hC hw hr hlk (Or.inl rfl) (congrArg (fun z => (z, M)) hf) d_Ma_isBehindLast_28
  · have hf := hf.trans (if_neg c5)
    refine lv_iconst (v := 1) hx hb d_Ma_isBehindLast_23 (by decide) ?_
    refine lv_goto (tgt := 28) hx hb d_Ma_isBehindLast_24 (by decide) ?_
    exact cs_zret hC hw hr hlk (Or.inr rfl) (congrArg (fun z => (z, M)) hf) d_Ma_isBehindLast_28
theorem d_Ma_hasEnded_0 : decode prog_4_method_13_code 0 = .ok (.aload_n 0, 1) := by decide +kernel
theorem d_Ma_hasEnded_1 : decode prog_4_method_13_code 1 = .ok (.iload_n 1, 1) := by decide +kernel
theorem d_Ma_hasEnded_2 : decode prog_4_method_13_code 2 = .ok (.invokevirtual 43, 3) := by decide +kernel
theorem d_Ma_hasEnded_5 : decode prog_4_method_13_code 5 = .ok (.ifCond .ne 31, 3) := by decide +kernel
theorem d_Ma_hasEnded_8 : decode prog_4_method_13_code 8 = .ok (.aload_n 0, 1) := by decide +kernel
theorem d_Ma_hasEnded_9 : decode prog_4_method_13_code 9 = .ok (.getfield 11, 3) := by decide +kernel
theorem d_Ma_hasEnded_12 : decode prog_4_method_13_code 12 = .ok (.bipush 38, 2) := by decide +kernel
theorem d_Ma_hasEnded_14 : decode prog_4_method_13_code 14 = .ok (.iload_n 1, 1) := by decide +kernel
theorem d_Ma_hasEnded_15 : decode prog_4_method_13_code 15 = .ok (.iadd, 1) := by decide +kernel
theorem d_Ma_hasEnded_16 : decode prog_4_method_13_code 16 = .ok (.iaload, 1) := by decide +kernel
theorem d_Ma_hasEnded_17 : decode prog_4_method_13_code 17 = .ok (.ifCond .ne 15, 3) := by decide +kernel
theorem d_Ma_hasEnded_20 : decode prog_4_method_13_code 20 = .ok (.aload_n 0, 1) := by decide +kernel
theorem d_Ma_hasEnded_21 : decode prog_4_method_13_code 21 = .ok (.aload_n 0, 1) := by decide +kernel
theorem d_Ma_hasEnded_22 : decode prog_4_method_13_code 22 = .ok (.iload_n 1, 1) := by decide +kernel
theorem d_Ma_hasEnded_23 : decode prog_4_method_13_code 23 = .ok (.invokevirtual 47, 3) := by decide +kernel
theorem d_Ma_hasEnded_26 : decode prog_4_method_13_code 26 = .ok (.invokevirtual 50, 3) := by decide +kernel
theorem d_Ma_hasEnded_29 : decode prog_4_method_13_code 29 = .ok (.ifCond .eq 7, 3) := by decide +kernel
theorem d_Ma_hasEnded_32 : decode prog_4_method_13_code 32 = .ok (.iconst 1, 1) := by decide +kernel
theorem d_Ma_hasEnded_33 : decode prog_4_method_13_code 33 = .ok (.goto 4, 3) := by decide +kernel
theorem d_Ma_hasEnded_36 : decode prog_4_method_13_code 36 = .ok (.iconst 0, 1) := by decide +kernel
theorem d_Ma_hasEnded_37 : decode prog_4_method_13_code 37 = .ok (.ireturn, 1) := by decide +kernel
def f_Ma_hasEnded (M : cs_Mem) (j : Nat) (x1 : Int32) : Int32 :=
  cs_bd (f_Ma_isInClass M j x1) fun (r2 : Int32) =>
  if r2 = 0 then
    if (M (j + 1) (38 + x1).toNatClampNeg) = 0 then
      cs_bd (f_Ma_topFrame M j x1) fun (r7 : Int32) =>
      cs_bd (f_Ma_isBehindLast M j r7) fun (r9 : Int32) =>
      if r9 = 0 then
        0
      else
        1
    else
      1
  else
    0
def pre_Ma_hasEnded (M : cs_Mem) (j : Nat) (x1 : Int32) : Prop :=
  (pre_Ma_isInClass M j x1) ∧
  cs_bd (f_Ma_isInClass M j x1) fun (r2 : Int32) =>
  (r2 = 0 →
    (vp_in (38 + x1) (cs_ln M (j + 1))) ∧
    ((M (j + 1) (38 + x1).toNatClampNeg) = 0 →
      (pre_Ma_topFrame M j x1) ∧
      cs_bd (f_Ma_topFrame M j x1) fun (r7 : Int32) =>
      (pre_Ma_isBehindLast M j r7) ∧
      True
    ) ∧ (¬ ((M (j + 1) (38 + x1).toNatClampNeg) = 0) →
      True
    )
  ) ∧ (¬ (r2 = 0) →
    True
  )
set_option maxHeartbeats 4000000 in
set_option maxRecDepth 100000 in
theorem c_Ma_hasEnded (l : Launch) (D : va_G) (cA : Nat → ClassId) (ad : Nat → Nat) (M : cs_Mem) (j : Nat) (hj : cs_is 3 j) (x1 : Int32) (hp : pre_Ma_hasEnded M j x1) : cs_Ci l ⟨"ClassStarter$Machine", "hasEnded", "(I)Z"⟩ prog_4_method_13_code 2 (some .boolean) ({ frames := 2, cells := 0, slots := 0, locals := 42 }) D cA ad M [.ref (ad j), .int x1] ((f_Ma_hasEnded M j x1, M)) := by
  refine cs_entry (by decide) (Nat.le_of_ble_eq_true rfl) (fun p e s m below meth c A ls hC hr hlk _ hw hl => ?_)
  have hx := hC.1
  have hb := hC.2.1
  have hl : lv_has ls 2 [(0, .ref (ad j)), (1, .int x1)] := hl
  generalize hF : f_Ma_hasEnded M j x1 = F
  have hf := hF.symm
  unfold f_Ma_hasEnded at hf
  unfold pre_Ma_hasEnded at hp
  refine lv_aload_n hx hb d_Ma_hasEnded_0 rfl (lv_at hl 0 rfl) ?_
  refine lv_iload_n hx hb d_Ma_hasEnded_1 rfl (lv_at hl 1 rfl) ?_
  have o1 := hp.1
  have hp := hp.2
  refine cs_ret_p hC hw (cs_runV (As := [.int x1]) (rest := []) hC hw hj.2 (ci := 3) rfl rfl (cs_sg_is hj) (c_Ma_isInClass l D cA ad M j hj x1 o1 _) rfl rfl cw_Ma_43 ⟨Nat.le_of_ble_eq_true rfl, Nat.le_of_ble_eq_true rfl⟩ hl.1 rfl rfl (Nat.le_of_ble_eq_true rfl) d_Ma_hasEnded_2 ⟨Nat.zero_le _, Nat.zero_le _⟩) (fun r2 H locs er2 hw => ?_)
  have hp := cs_bdP er2 hp
  have hf := cs_bdE er2 hf
  refine lv_if_ne (tgt := 36) hx hb d_Ma_hasEnded_5 (by decide) (fun c3 => ?_) (fun c3 => ?_)
  · have hp := hp.2 c3
    have hf := hf.trans (if_neg c3)
    refine lv_iconst (v := 0) hx hb d_Ma_hasEnded_36 (by decide) ?_
    exact cs_zret hC hw hr hlk (Or.inl rfl) (congrArg (fun z => (z, M)) hf) d_Ma_hasEnded_37
  · have hp := hp.1 c3
    have hf := hf.trans (if_pos c3)
    refine lv_aload_n hx hb d_Ma_hasEnded_8 rfl (lv_at hl 0 rfl) ?_
    refine gf_Ma_cells hC hw hj wd_131 d_Ma_hasEnded_9 ?_
    refine lv_bipush (v := 38) hx hb d_Ma_hasEnded_12 (by decide) ?_
    refine lv_iload_n hx hb d_Ma_hasEnded_14 rfl (lv_at hl 1 rfl) ?_
    refine lv_iadd hx hb d_Ma_hasEnded_15 ?_
    have o4 := hp.1
    have hp := hp.2
    refine cs_iald hC hw (is_Ma1 hj) o4 d_Ma_hasEnded_16 ?_
    refine lv_if_ne (tgt := 32) hx hb d_Ma_hasEnded_17 (by decide) (fun c5 => ?_) (fun c5 => ?_)
    · have hp := hp.2 c5
      have hf := hf.trans (if_neg c5)
      refine lv_iconst (v := 1) hx hb d_Ma_hasEnded_32 (by decide) ?_
      refine lv_goto (tgt := 37) hx hb d_Ma_hasEnded_33 (by decide) ?_
      exact cs_zret hC hw hr hlk (Or.inr rfl) (congrArg (fun z => (z, M)) hf) d_Ma_hasEnded_37
    · have hp := hp.1 c5
      have hf := hf.trans (if_pos c5)
      refine lv_aload_n hx hb d_Ma_hasEnded_20 rfl (lv_at hl 0 rfl) ?_
      refine lv_aload_n hx hb d_Ma_hasEnded_21 rfl (lv_at hl 0 rfl) ?_
      refine lv_iload_n hx hb d_Ma_hasEnded_22 rfl (lv_at hl 1 rfl) ?_
      have o6 := hp.1
      have hp := hp.2
      refine cs_ret_p hC hw (cs_runV (As := [.int x1]) (rest := [.ref (ad j)]) hC hw hj.2 (ci := 3) rfl rfl (cs_sg_is hj) (c_Ma_topFrame l D cA ad M j hj x1 o6 _) rfl rfl cw_Ma_47 ⟨Nat.le_of_ble_eq_true rfl, Nat.le_of_ble_eq_true rfl⟩ hl.1 rfl rfl (Nat.le_of_ble_eq_true rfl) d_Ma_hasEnded_23 ⟨Nat.zero_le _, Nat.zero_le _⟩) (fun r7 H locs er7 hw => ?_)
      have hp := cs_bdP er7 hp
      have hf := cs_bdE er7 hf
      have o8 := hp.1
      have hp := hp.2
      refine cs_ret_p hC hw (cs_runV (As := [.int r7]) (rest := []) hC hw hj.2 (ci := 3) rfl rfl (cs_sg_is hj) (c_Ma_isBehindLast l D cA ad M j hj r7 o8 _) rfl rfl cw_Ma_50 ⟨Nat.le_of_ble_eq_true rfl, Nat.le_of_ble_eq_true rfl⟩ hl.1 rfl rfl (Nat.le_of_ble_eq_true rfl) d_Ma_hasEnded_26 ⟨Nat.zero_le _, Nat.zero_le _⟩) (fun r9 H locs er9 hw => ?_)
      have hf := cs_bdE er9 hf
      refine lv_if_eq (tgt := 36) hx hb d_Ma_hasEnded_29 (by decide) (fun c10 => ?_) (fun c10 => ?_)
      · have hf := hf.trans (if_pos c10)
        refine lv_iconst (v := 0) hx hb d_Ma_hasEnded_36 (by decide) ?_
        exact cs_zret hC hw hr hlk (Or.inl rfl) (congrArg (fun z => (z, M)) hf) d_Ma_hasEnded_37
      · have hf := hf.trans (if_neg c10)
        refine lv_iconst (v := 1) hx hb d_Ma_hasEnded_32 (by decide) ?_
        refine lv_goto (tgt := 37) hx hb d_Ma_hasEnded_33 (by decide) ?_
        exact cs_zret hC hw hr hlk (Or.inr rfl) (congrArg (fun z => (z, M)) hf) d_Ma_hasEnded_37
theorem d_Ma_stateOf_0 : decode prog_4_method_7_code 0 = .ok (.aload_n 0, 1) := by decide +kernel
theorem d_Ma_stateOf_1 : decode prog_4_method_7_code 1 = .ok (.getfield 11, 3) := by decide +kernel
theorem d_Ma_stateOf_4 : decode prog_4_method_7_code 4 = .ok (.iconst 0, 1) := by decide +kernel
theorem d_Ma_stateOf_5 : decode prog_4_method_7_code 5 = .ok (.iload_n 1, 1) := by decide +kernel
theorem d_Ma_stateOf_6 : decode prog_4_method_7_code 6 = .ok (.iadd, 1) := by decide +kernel
theorem d_Ma_stateOf_7 : decode prog_4_method_7_code 7 = .ok (.iaload, 1) := by decide +kernel
theorem d_Ma_stateOf_8 : decode prog_4_method_7_code 8 = .ok (.ireturn, 1) := by decide +kernel
def f_Ma_stateOf (M : cs_Mem) (j : Nat) (x1 : Int32) : Int32 :=
  M (j + 1) (0 + x1).toNatClampNeg
def pre_Ma_stateOf (M : cs_Mem) (j : Nat) (x1 : Int32) : Prop :=
  (vp_in (0 + x1) (cs_ln M (j + 1))) ∧
  True
set_option maxHeartbeats 4000000 in
set_option maxRecDepth 100000 in
theorem c_Ma_stateOf (l : Launch) (D : va_G) (cA : Nat → ClassId) (ad : Nat → Nat) (M : cs_Mem) (j : Nat) (hj : cs_is 3 j) (x1 : Int32) (hp : pre_Ma_stateOf M j x1) : cs_Ci l ⟨"ClassStarter$Machine", "stateOf", "(I)I"⟩ prog_4_method_7_code 2 (some .int) ({ frames := 0, cells := 0, slots := 0, locals := 0 }) D cA ad M [.ref (ad j), .int x1] ((f_Ma_stateOf M j x1, M)) := by
  refine cs_entry (by decide) (Nat.le_of_ble_eq_true rfl) (fun p e s m below meth c A ls hC hr hlk _ hw hl => ?_)
  have hx := hC.1
  have hb := hC.2.1
  have hl : lv_has ls 2 [(0, .ref (ad j)), (1, .int x1)] := hl
  generalize hF : f_Ma_stateOf M j x1 = F
  have hf := hF.symm
  unfold f_Ma_stateOf at hf
  unfold pre_Ma_stateOf at hp
  refine lv_aload_n hx hb d_Ma_stateOf_0 rfl (lv_at hl 0 rfl) ?_
  refine gf_Ma_cells hC hw hj wd_131 d_Ma_stateOf_1 ?_
  refine lv_iconst (v := 0) hx hb d_Ma_stateOf_4 (by decide) ?_
  refine lv_iload_n hx hb d_Ma_stateOf_5 rfl (lv_at hl 1 rfl) ?_
  refine lv_iadd hx hb d_Ma_stateOf_6 ?_
  have o1 := hp.1
  have hp := hp.2
  refine cs_iald hC hw (is_Ma1 hj) o1 d_Ma_stateOf_7 ?_
  exact cs_iret hC hw hr hlk (congrArg (fun z => (z, M)) hf) d_Ma_stateOf_8
theorem d_Ma_awaited_0 : decode prog_4_method_15_code 0 = .ok (.aload_n 0, 1) := by decide +kernel
theorem d_Ma_awaited_1 : decode prog_4_method_15_code 1 = .ok (.getfield 11, 3) := by decide +kernel
theorem d_Ma_awaited_4 : decode prog_4_method_15_code 4 = .ok (.bipush 38, 2) := by decide +kernel
theorem d_Ma_awaited_6 : decode prog_4_method_15_code 6 = .ok (.iload_n 1, 1) := by decide +kernel
theorem d_Ma_awaited_7 : decode prog_4_method_15_code 7 = .ok (.iadd, 1) := by decide +kernel
theorem d_Ma_awaited_8 : decode prog_4_method_15_code 8 = .ok (.iaload, 1) := by decide +kernel
theorem d_Ma_awaited_9 : decode prog_4_method_15_code 9 = .ok (.ifCond .eq 5, 3) := by decide +kernel
theorem d_Ma_awaited_12 : decode prog_4_method_15_code 12 = .ok (.iconst (-1), 1) := by decide +kernel
theorem d_Ma_awaited_13 : decode prog_4_method_15_code 13 = .ok (.ireturn, 1) := by decide +kernel
theorem d_Ma_awaited_14 : decode prog_4_method_15_code 14 = .ok (.aload_n 0, 1) := by decide +kernel
theorem d_Ma_awaited_15 : decode prog_4_method_15_code 15 = .ok (.iload_n 1, 1) := by decide +kernel
theorem d_Ma_awaited_16 : decode prog_4_method_15_code 16 = .ok (.invokevirtual 47, 3) := by decide +kernel
theorem d_Ma_awaited_19 : decode prog_4_method_15_code 19 = .ok (.istore_n 2, 1) := by decide +kernel
theorem d_Ma_awaited_20 : decode prog_4_method_15_code 20 = .ok (.aload_n 0, 1) := by decide +kernel
theorem d_Ma_awaited_21 : decode prog_4_method_15_code 21 = .ok (.getfield 18, 3) := by decide +kernel
theorem d_Ma_awaited_24 : decode prog_4_method_15_code 24 = .ok (.iload_n 2, 1) := by decide +kernel
theorem d_Ma_awaited_25 : decode prog_4_method_15_code 25 = .ok (.aload_n 0, 1) := by decide +kernel
theorem d_Ma_awaited_26 : decode prog_4_method_15_code 26 = .ok (.getfield 11, 3) := by decide +kernel
theorem d_Ma_awaited_29 : decode prog_4_method_15_code 29 = .ok (.bipush 24, 2) := by decide +kernel
theorem d_Ma_awaited_31 : decode prog_4_method_15_code 31 = .ok (.iload_n 2, 1) := by decide +kernel
theorem d_Ma_awaited_32 : decode prog_4_method_15_code 32 = .ok (.iadd, 1) := by decide +kernel
theorem d_Ma_awaited_33 : decode prog_4_method_15_code 33 = .ok (.iaload, 1) := by decide +kernel
theorem d_Ma_awaited_34 : decode prog_4_method_15_code 34 = .ok (.invokevirtual 63, 3) := by decide +kernel
theorem d_Ma_awaited_37 : decode prog_4_method_15_code 37 = .ok (.istore_n 3, 1) := by decide +kernel
theorem d_Ma_awaited_38 : decode prog_4_method_15_code 38 = .ok (.iload_n 3, 1) := by decide +kernel
theorem d_Ma_awaited_39 : decode prog_4_method_15_code 39 = .ok (.iconst (-1), 1) := by decide +kernel
theorem d_Ma_awaited_40 : decode prog_4_method_15_code 40 = .ok (.if_icmp .eq 27, 3) := by decide +kernel
theorem d_Ma_awaited_43 : decode prog_4_method_15_code 43 = .ok (.aload_n 0, 1) := by decide +kernel
theorem d_Ma_awaited_44 : decode prog_4_method_15_code 44 = .ok (.iload_n 3, 1) := by decide +kernel
theorem d_Ma_awaited_45 : decode prog_4_method_15_code 45 = .ok (.invokevirtual 67, 3) := by decide +kernel
theorem d_Ma_awaited_48 : decode prog_4_method_15_code 48 = .ok (.iconst 4, 1) := by decide +kernel
theorem d_Ma_awaited_49 : decode prog_4_method_15_code 49 = .ok (.if_icmp .lt 18, 3) := by decide +kernel
theorem d_Ma_awaited_52 : decode prog_4_method_15_code 52 = .ok (.aload_n 0, 1) := by decide +kernel
theorem d_Ma_awaited_53 : decode prog_4_method_15_code 53 = .ok (.iload_n 3, 1) := by decide +kernel
theorem d_Ma_awaited_54 : decode prog_4_method_15_code 54 = .ok (.invokevirtual 67, 3) := by decide +kernel
theorem d_Ma_awaited_57 : decode prog_4_method_15_code 57 = .ok (.iconst 4, 1) := by decide +kernel
theorem d_Ma_awaited_58 : decode prog_4_method_15_code 58 = .ok (.iload_n 1, 1) := by decide +kernel
theorem d_Ma_awaited_59 : decode prog_4_method_15_code 59 = .ok (.iadd, 1) := by decide +kernel
theorem d_Ma_awaited_60 : decode prog_4_method_15_code 60 = .ok (.if_icmp .eq 7, 3) := by decide +kernel
theorem d_Ma_awaited_63 : decode prog_4_method_15_code 63 = .ok (.iload_n 3, 1) := by decide +kernel
theorem d_Ma_awaited_64 : decode prog_4_method_15_code 64 = .ok (.goto 4, 3) := by decide +kernel
theorem d_Ma_awaited_67 : decode prog_4_method_15_code 67 = .ok (.iconst (-1), 1) := by decide +kernel
theorem d_Ma_awaited_68 : decode prog_4_method_15_code 68 = .ok (.ireturn, 1) := by decide +kernel
def f_Ma_awaited (M : cs_Mem) (j : Nat) (x1 : Int32) : Int32 :=
  if (M (j + 1) (38 + x1).toNatClampNeg) = 0 then
    cs_bd (f_Ma_topFrame M j x1) fun (r4 : Int32) =>
    cs_bd (f_Pr_usedBy M 1 r4 (M (j + 1) (24 + r4).toNatClampNeg)) fun (r7 : Int32) =>
    if r7 = (-1) then
      (-1)
    else
      cs_bd (f_Ma_stateOf M j r7) fun (r10 : Int32) =>
      if r10 < 4 then
        (-1)
      else
        cs_bd (f_Ma_stateOf M j r7) fun (r13 : Int32) =>
        if r13 = (4 + x1) then
          (-1)
        else
          r7
  else
    (-1)
def pre_Ma_awaited (M : cs_Mem) (j : Nat) (x1 : Int32) : Prop :=
  (vp_in (38 + x1) (cs_ln M (j + 1))) ∧
  ((M (j + 1) (38 + x1).toNatClampNeg) = 0 →
    (pre_Ma_topFrame M j x1) ∧
    cs_bd (f_Ma_topFrame M j x1) fun (r4 : Int32) =>
    (vp_in (24 + r4) (cs_ln M (j + 1))) ∧
    (pre_Pr_usedBy M 1 r4 (M (j + 1) (24 + r4).toNatClampNeg)) ∧
    cs_bd (f_Pr_usedBy M 1 r4 (M (j + 1) (24 + r4).toNatClampNeg)) fun (r7 : Int32) =>
    (r7 = (-1) →
      True
    ) ∧ (¬ (r7 = (-1)) →
      (pre_Ma_stateOf M j r7) ∧
      cs_bd (f_Ma_stateOf M j r7) fun (r10 : Int32) =>
      (r10 < 4 →
        True
      ) ∧ (¬ (r10 < 4) →
        (pre_Ma_stateOf M j r7) ∧
        True
      )
    )
  ) ∧ (¬ ((M (j + 1) (38 + x1).toNatClampNeg) = 0) →
    True
  )
set_option maxHeartbeats 4000000 in
set_option maxRecDepth 100000 in
theorem c_Ma_awaited (l : Launch) (D : va_G) (cA : Nat → ClassId) (ad : Nat → Nat) (M : cs_Mem) (j : Nat) (hj : cs_is 3 j) (x1 : Int32) (hp : pre_Ma_awaited M j x1) : cs_Ci l ⟨"ClassStarter$Machine", "awaited", "(I)I"⟩ prog_4_method_15_code 4 (some .int) ({ frames := 2, cells := 0, slots := 0, locals := 45 }) D cA ad M [.ref (ad j), .int x1] ((f_Ma_awaited M j x1, M)) := by
  refine cs_entry (by decide) (Nat.le_of_ble_eq_true rfl) (fun p e s m below meth c A ls hC hr hlk _ hw hl => ?_)
  have hx := hC.1
  have hb := hC.2.1
  have hl : lv_has ls 4 [(0, .ref (ad j)), (1, .int x1)] := hl
  generalize hF : f_Ma_awaited M j x1 = F
  have hf := hF.symm
  unfold f_Ma_awaited at hf
  unfold pre_Ma_awaited at hp
  refine lv_aload_n hx hb d_Ma_awaited_0 rfl (lv_at hl 0 rfl) ?_
  refine gf_Ma_cells hC hw hj wd_131 d_Ma_awaited_1 ?_
  refine lv_bipush (v := 38) hx hb d_Ma_awaited_4 (by decide) ?_
  refine lv_iload_n hx hb d_Ma_awaited_6 rfl (lv_at hl 1 rfl) ?_
  refine lv_iadd hx hb d_Ma_awaited_7 ?_
  have o1 := hp.1
  have hp := hp.2
  refine cs_iald hC hw (is_Ma1 hj) o1 d_Ma_awaited_8 ?_
  refine lv_if_eq (tgt := 14) hx hb d_Ma_awaited_9 (by decide) (fun c2 => ?_) (fun c2 => ?_)
  · have hp := hp.1 c2
    have hf := hf.trans (if_pos c2)
    refine lv_aload_n hx hb d_Ma_awaited_14 rfl (lv_at hl 0 rfl) ?_
    refine lv_iload_n hx hb d_Ma_awaited_15 rfl (lv_at hl 1 rfl) ?_
    have o3 := hp.1
    have hp := hp.2
    refine cs_ret_p hC hw (cs_runV (As := [.int x1]) (rest := []) hC hw hj.2 (ci := 3) rfl rfl (cs_sg_is hj) (c_Ma_topFrame l D cA ad M j hj x1 o3 _) rfl rfl cw_Ma_47 ⟨Nat.le_of_ble_eq_true rfl, Nat.le_of_ble_eq_true rfl⟩ hl.1 rfl rfl (Nat.le_of_ble_eq_true rfl) d_Ma_awaited_16 ⟨Nat.zero_le _, Nat.zero_le _⟩) (fun r4 H locs er4 hw => ?_)
    have hp := cs_bdP er4 hp
    have hf := cs_bdE er4 hf
    refine lv_istore_n (lv' := [(2, .int r4), (0, .ref (ad j)), (1, .int x1)]) hx hb d_Ma_awaited_19 rfl hl (by decide) rfl (fun ls hl => ?_)
    refine lv_aload_n hx hb d_Ma_awaited_20 rfl (lv_at hl 1 rfl) ?_
    refine gf_Ma_program hC hw hj wd_130 d_Ma_awaited_21 ?_
    refine lv_iload_n hx hb d_Ma_awaited_24 rfl (lv_at hl 0 rfl) ?_
    refine lv_aload_n hx hb d_Ma_awaited_25 rfl (lv_at hl 1 rfl) ?_
    refine gf_Ma_cells hC hw hj wd_131 d_Ma_awaited_26 ?_
    refine lv_bipush (v := 24) hx hb d_Ma_awaited_29 (by decide) ?_
    refine lv_iload_n hx hb d_Ma_awaited_31 rfl (lv_at hl 0 rfl) ?_
    refine lv_iadd hx hb d_Ma_awaited_32 ?_
    have o5 := hp.1
    have hp := hp.2
    refine cs_iald hC hw (is_Ma1 hj) o5 d_Ma_awaited_33 ?_
    have o6 := hp.1
    have hp := hp.2
    refine cs_ret_p hC hw (cs_runV (As := [.int r4, .int (M (j + 1) (24 + r4).toNatClampNeg)]) (rest := []) hC hw is_1.2 (ci := 1) rfl rfl (cs_sg_is is_1) (c_Pr_usedBy l D cA ad M 1 is_1 r4 (M (j + 1) (24 + r4).toNatClampNeg) o6 _) rfl rfl cw_Ma_63 ⟨Nat.le_of_ble_eq_true rfl, Nat.le_of_ble_eq_true rfl⟩ hl.1 rfl rfl (Nat.le_of_ble_eq_true rfl) d_Ma_awaited_34 ⟨Nat.zero_le _, Nat.zero_le _⟩) (fun r7 H locs er7 hw => ?_)
    have hp := cs_bdP er7 hp
    have hf := cs_bdE er7 hf
    refine lv_istore_n (lv' := [(3, .int r7), (2, .int r4), (0, .ref (ad j)), (1, .int x1)]) hx hb d_Ma_awaited_37 rfl hl (by decide) rfl (fun ls hl => ?_)
    refine lv_iload_n hx hb d_Ma_awaited_38 rfl (lv_at hl 0 rfl) ?_
    refine lv_iconst (v := (-1)) hx hb d_Ma_awaited_39 (by decide) ?_
    refine lv_icmp_eq (tgt := 67) hx hb d_Ma_awaited_40 (by decide) (fun c8 => ?_) (fun c8 => ?_)
    · have hp := hp.1 c8
      have hf := hf.trans (if_pos c8)
      refine lv_iconst (v := (-1)) hx hb d_Ma_awaited_67 (by decide) ?_
      exact cs_iret hC hw hr hlk (congrArg (fun z => (z, M)) hf) d_Ma_awaited_68
    · have hp := hp.2 c8
      have hf := hf.trans (if_neg c8)
      refine lv_aload_n hx hb d_Ma_awaited_43 rfl (lv_at hl 2 rfl) ?_
      refine lv_iload_n hx hb d_Ma_awaited_44 rfl (lv_at hl 0 rfl) ?_
      have o9 := hp.1
      have hp := hp.2
      refine cs_ret_p hC hw (cs_runV (As := [.int r7]) (rest := []) hC hw hj.2 (ci := 3) rfl rfl (cs_sg_is hj) (c_Ma_stateOf l D cA ad M j hj r7 o9 _) rfl rfl cw_Ma_67 ⟨Nat.le_of_ble_eq_true rfl, Nat.le_of_ble_eq_true rfl⟩ hl.1 rfl rfl (Nat.le_of_ble_eq_true rfl) d_Ma_awaited_45 ⟨Nat.zero_le _, Nat.zero_le _⟩) (fun r10 H locs er10 hw => ?_)
      have hp := cs_bdP er10 hp
      have hf := cs_bdE er10 hf
      refine lv_iconst (v := 4) hx hb d_Ma_awaited_48 (by decide) ?_
      refine lv_icmp_lt (tgt := 67) hx hb d_Ma_awaited_49 (by decide) (fun c11 => ?_) (fun c11 => ?_)
      · have hp := hp.1 c11
        have hf := hf.trans (if_pos c11)
        refine lv_iconst (v := (-1)) hx hb d_Ma_awaited_67 (by decide) ?_
        exact cs_iret hC hw hr hlk (congrArg (fun z => (z, M)) hf) d_Ma_awaited_68
      · have hp := hp.2 c11
        have hf := hf.trans (if_neg c11)
        refine lv_aload_n hx hb d_Ma_awaited_52 rfl (lv_at hl 2 rfl) ?_
        refine lv_iload_n hx hb d_Ma_awaited_53 rfl (lv_at hl 0 rfl) ?_
        have o12 := hp.1
        have hp := hp.2
        refine cs_ret_p hC hw (cs_runV (As := [.int r7]) (rest := []) hC hw hj.2 (ci := 3) rfl rfl (cs_sg_is hj) (c_Ma_stateOf l D cA ad M j hj r7 o12 _) rfl rfl cw_Ma_67 ⟨Nat.le_of_ble_eq_true rfl, Nat.le_of_ble_eq_true rfl⟩ hl.1 rfl rfl (Nat.le_of_ble_eq_true rfl) d_Ma_awaited_54 ⟨Nat.zero_le _, Nat.zero_le _⟩) (fun r13 H locs er13 hw => ?_)
        have hf := cs_bdE er13 hf
        refine lv_iconst (v := 4) hx hb d_Ma_awaited_57 (by decide) ?_
        refine lv_iload_n hx hb d_Ma_awaited_58 rfl (lv_at hl 3 rfl) ?_
        refine lv_iadd hx hb d_Ma_awaited_59 ?_
        refine lv_icmp_eq (tgt := 67) hx hb d_Ma_awaited_60 (by decide) (fun c14 => ?_) (fun c14 => ?_)
        · have hf := hf.trans (if_pos c14)
          refine lv_iconst (v := (-1)) hx hb d_Ma_awaited_67 (by decide) ?_
          exact cs_iret hC hw hr hlk (congrArg (fun z => (z, M)) hf) d_Ma_awaited_68
        · have hf := hf.trans (if_neg c14)
          refine lv_iload_n hx hb d_Ma_awaited_63 rfl (lv_at hl 0 rfl) ?_
          refine lv_goto (tgt := 68) hx hb d_Ma_awaited_64 (by decide) ?_
          exact cs_iret hC hw hr hlk (congrArg (fun z => (z, M)) hf) d_Ma_awaited_68
  · have hp := hp.2 c2
    have hf := hf.trans (if_neg c2)
    refine lv_iconst (v := (-1)) hx hb d_Ma_awaited_12 (by decide) ?_
    exact cs_iret hC hw hr hlk (congrArg (fun z => (z, M)) hf) d_Ma_awaited_13
theorem d_Ma_dropTop_0 : decode prog_4_method_22_code 0 = .ok (.aload_n 0, 1) := by decide +kernel
theorem d_Ma_dropTop_1 : decode prog_4_method_22_code 1 = .ok (.iload_n 1, 1) := by decide +kernel
theorem d_Ma_dropTop_2 : decode prog_4_method_22_code 2 = .ok (.invokevirtual 47, 3) := by decide +kernel
theorem d_Ma_dropTop_5 : decode prog_4_method_22_code 5 = .ok (.istore_n 3, 1) := by decide +kernel
theorem d_Ma_dropTop_6 : decode prog_4_method_22_code 6 = .ok (.iload_n 3, 1) := by decide +kernel
theorem d_Ma_dropTop_7 : decode prog_4_method_22_code 7 = .ok (.bipush 8, 2) := by decide +kernel
theorem d_Ma_dropTop_9 : decode prog_4_method_22_code 9 = .ok (.if_icmp .ge 30, 3) := by decide +kernel
theorem d_Ma_dropTop_12 : decode prog_4_method_22_code 12 = .ok (.aload_n 0, 1) := by decide +kernel
theorem d_Ma_dropTop_13 : decode prog_4_method_22_code 13 = .ok (.getfield 11, 3) := by decide +kernel
theorem d_Ma_dropTop_16 : decode prog_4_method_22_code 16 = .ok (.iconst 0, 1) := by decide +kernel
theorem d_Ma_dropTop_17 : decode prog_4_method_22_code 17 = .ok (.iload_n 3, 1) := by decide +kernel
theorem d_Ma_dropTop_18 : decode prog_4_method_22_code 18 = .ok (.iadd, 1) := by decide +kernel
theorem d_Ma_dropTop_19 : decode prog_4_method_22_code 19 = .ok (.iload_n 2, 1) := by decide +kernel
theorem d_Ma_dropTop_20 : decode prog_4_method_22_code 20 = .ok (.iastore, 1) := by decide +kernel
theorem d_Ma_dropTop_21 : decode prog_4_method_22_code 21 = .ok (.aload_n 0, 1) := by decide +kernel
theorem d_Ma_dropTop_22 : decode prog_4_method_22_code 22 = .ok (.getfield 11, 3) := by decide +kernel
theorem d_Ma_dropTop_25 : decode prog_4_method_22_code 25 = .ok (.bipush 35, 2) := by decide +kernel
theorem d_Ma_dropTop_27 : decode prog_4_method_22_code 27 = .ok (.iload_n 1, 1) := by decide +kernel
theorem d_Ma_dropTop_28 : decode prog_4_method_22_code 28 = .ok (.iadd, 1) := by decide +kernel
theorem d_Ma_dropTop_29 : decode prog_4_method_22_code 29 = .ok (.aload_n 0, 1) := by decide +kernel
theorem d_Ma_dropTop_30 : decode prog_4_method_22_code 30 = .ok (.getfield 11, 3) := by decide +kernel
theorem d_Ma_dropTop_33 : decode prog_4_method_22_code 33 = .ok (.bipush 16, 2) := by decide +kernel
theorem d_Ma_dropTop_35 : decode prog_4_method_22_code 35 = .ok (.iload_n 3, 1) := by decide +kernel
theorem d_Ma_dropTop_36 : decode prog_4_method_22_code 36 = .ok (.iadd, 1) := by decide +kernel
theorem d_Ma_dropTop_37 : decode prog_4_method_22_code 37 = .ok (.iaload, 1) := by decide +kernel
theorem d_Ma_dropTop_38 : decode prog_4_method_22_code 38 = .ok (.iastore, 1) := by decide +kernel
theorem d_Ma_dropTop_39 : decode prog_4_method_22_code 39 = .ok (.return_, 1) := by decide +kernel
def f_Ma_dropTop (M : cs_Mem) (j : Nat) (x1 : Int32) (x2 : Int32) : cs_Mem :=
  cs_bd (f_Ma_topFrame M j x1) fun (r2 : Int32) =>
  if 8 ≤ r2 then
    M
  else
    cs_bd (cs_up M (j + 1) (upd (M (j + 1)) (0 + r2).toNatClampNeg x2)) fun (N5 : cs_Mem) =>
    cs_bd (cs_up N5 (j + 1) (upd (N5 (j + 1)) (35 + x1).toNatClampNeg (N5 (j + 1) (16 + r2).toNatClampNeg))) fun (N8 : cs_Mem) =>
    N8
def pre_Ma_dropTop (M : cs_Mem) (j : Nat) (x1 : Int32) (x2 : Int32) : Prop :=
  (pre_Ma_topFrame M j x1) ∧
  cs_bd (f_Ma_topFrame M j x1) fun (r2 : Int32) =>
  (8 ≤ r2 →
    True
  ) ∧ (¬ (8 ≤ r2) →
    (vp_in (0 + r2) (cs_ln M (j + 1))) ∧
    cs_bd (cs_up M (j + 1) (upd (M (j + 1)) (0 + r2).toNatClampNeg x2)) fun (N5 : cs_Mem) =>
    (vp_in (16 + r2) (cs_ln N5 (j + 1))) ∧
    (vp_in (35 + x1) (cs_ln N5 (j + 1))) ∧
    True
  )
set_option maxHeartbeats 4000000 in
set_option maxRecDepth 100000 in
theorem c_Ma_dropTop (l : Launch) (D : va_G) (cA : Nat → ClassId) (ad : Nat → Nat) (M : cs_Mem) (j : Nat) (hj : cs_is 3 j) (x1 : Int32) (x2 : Int32) (hp : pre_Ma_dropTop M j x1 x2) : cs_Cv l ⟨"ClassStarter$Machine", "dropTop", "(II)V"⟩ prog_4_method_22_code 4 none ({ frames := 1, cells := 0, slots := 0, locals := 21 }) D cA ad M [.ref (ad j), .int x1, .int x2] (f_Ma_dropTop M j x1 x2) := by
  refine cs_entry (by decide) (Nat.le_of_ble_eq_true rfl) (fun p e s m below meth c A ls hC hr hlk _ hw hl => ?_)
  have hx := hC.1
  have hb := hC.2.1
  have hl : lv_has ls 4 [(0, .ref (ad j)), (1, .int x1), (2, .int x2)] := hl
  generalize hF : f_Ma_dropTop M j x1 x2 = F
  have hf := hF.symm
  unfold f_Ma_dropTop at hf
  unfold pre_Ma_dropTop at hp
  refine lv_aload_n hx hb d_Ma_dropTop_0 rfl (lv_at hl 0 rfl) ?_
  refine lv_iload_n hx hb d_Ma_dropTop_1 rfl (lv_at hl 1 rfl) ?_
  have o1 := hp.1
  have hp := hp.2
  refine cs_ret_p hC hw (cs_runV (As := [.int x1]) (rest := []) hC hw hj.2 (ci := 3) rfl rfl (cs_sg_is hj) (c_Ma_topFrame l D cA ad M j hj x1 o1 _) rfl rfl cw_Ma_47 ⟨Nat.le_of_ble_eq_true rfl, Nat.le_of_ble_eq_true rfl⟩ hl.1 rfl rfl (Nat.le_of_ble_eq_true rfl) d_Ma_dropTop_2 ⟨Nat.zero_le _, Nat.zero_le _⟩) (fun r2 H locs er2 hw => ?_)
  have hp := cs_bdP er2 hp
  have hf := cs_bdE er2 hf
  refine lv_istore_n (lv' := [(3, .int r2), (0, .ref (ad j)), (1, .int x1), (2, .int x2)]) hx hb d_Ma_dropTop_5 rfl hl (by decide) rfl (fun ls hl => ?_)
  refine lv_iload_n hx hb d_Ma_dropTop_6 rfl (lv_at hl 0 rfl) ?_
  refine lv_bipush (v := 8) hx hb d_Ma_dropTop_7 (by decide) ?_
  refine lv_icmp_ge (tgt := 39) hx hb d_Ma_dropTop_9 (by decide) (fun c3 => ?_) (fun c3 => ?_)
  · have hp := hp.1 c3
    have hf := hf.trans (if_pos c3)
    exact cs_vret hC hw hr hlk hf d_Ma_dropTop_39
  · have hp := hp.2 c3
    have hf := hf.trans (if_neg c3)
    refine lv_aload_n hx hb d_Ma_dropTop_12 rfl (lv_at hl 1 rfl) ?_
    refine gf_Ma_cells hC hw hj wd_131 d_Ma_dropTop_13 ?_
    refine lv_iconst (v := 0) hx hb d_Ma_dropTop_16 (by decide) ?_
    refine lv_iload_n hx hb d_Ma_dropTop_17 rfl (lv_at hl 0 rfl) ?_
    refine lv_iadd hx hb d_Ma_dropTop_18 ?_
    refine lv_iload_n hx hb d_Ma_dropTop_19 rfl (lv_at hl 3 rfl) ?_
    have o4 := hp.1
    have hp := hp.2
    refine cs_iast hC hw (is_Ma1 hj) o4 d_Ma_dropTop_20 (fun N5 H locs eN5 hw => ?_)
    have hp := cs_bdP eN5 hp
    have hf := cs_bdE eN5 hf
    refine lv_aload_n hx hb d_Ma_dropTop_21 rfl (lv_at hl 1 rfl) ?_
    refine gf_Ma_cells hC hw hj wd_131 d_Ma_dropTop_22 ?_
    refine lv_bipush (v := 35) hx hb d_Ma_dropTop_25 (by decide) ?_
    refine lv_iload_n hx hb d_Ma_dropTop_27 rfl (lv_at hl 2 rfl) ?_
    refine lv_iadd hx hb d_Ma_dropTop_28 ?_
    refine lv_aload_n hx hb d_Ma_dropTop_29 rfl (lv_at hl 1 rfl) ?_
    refine gf_Ma_cells hC hw hj wd_131 d_Ma_dropTop_30 ?_
    refine lv_bipush (v := 16) hx hb d_Ma_dropTop_33 (by decide) ?_
    refine lv_iload_n hx hb d_Ma_dropTop_35 rfl (lv_at hl 0 rfl) ?_
    refine lv_iadd hx hb d_Ma_dropTop_36 ?_
    have o6 := hp.1
    have hp := hp.2
    refine cs_iald hC hw (is_Ma1 hj) o6 d_Ma_dropTop_37 ?_
    have o7 := hp.1
    have hp := hp.2
    refine cs_iast hC hw (is_Ma1 hj) o7 d_Ma_dropTop_38 (fun N8 H locs eN8 hw => ?_)
    have hf := cs_bdE eN8 hf
    exact cs_vret hC hw hr hlk hf d_Ma_dropTop_39
theorem d_Ma_write_0 : decode prog_4_method_28_code 0 = .ok (.aload_n 0, 1) := by decide +kernel
theorem d_Ma_write_1 : decode prog_4_method_28_code 1 = .ok (.getfield 11, 3) := by decide +kernel
theorem d_Ma_write_4 : decode prog_4_method_28_code 4 = .ok (.bipush 42, 2) := by decide +kernel
theorem d_Ma_write_6 : decode prog_4_method_28_code 6 = .ok (.iaload, 1) := by decide +kernel
theorem d_Ma_write_7 : decode prog_4_method_28_code 7 = .ok (.aload_n 0, 1) := by decide +kernel
theorem d_Ma_write_8 : decode prog_4_method_28_code 8 = .ok (.getfield 15, 3) := by decide +kernel
theorem d_Ma_write_11 : decode prog_4_method_28_code 11 = .ok (.arraylength, 1) := by decide +kernel
theorem d_Ma_write_12 : decode prog_4_method_28_code 12 = .ok (.if_icmp .ge 27, 3) := by decide +kernel
theorem d_Ma_write_15 : decode prog_4_method_28_code 15 = .ok (.aload_n 0, 1) := by decide +kernel
theorem d_Ma_write_16 : decode prog_4_method_28_code 16 = .ok (.getfield 15, 3) := by decide +kernel
theorem d_Ma_write_19 : decode prog_4_method_28_code 19 = .ok (.aload_n 0, 1) := by decide +kernel
theorem d_Ma_write_20 : decode prog_4_method_28_code 20 = .ok (.getfield 11, 3) := by decide +kernel
theorem d_Ma_write_23 : decode prog_4_method_28_code 23 = .ok (.bipush 42, 2) := by decide +kernel
theorem d_Ma_write_25 : decode prog_4_method_28_code 25 = .ok (.iaload, 1) := by decide +kernel
theorem d_Ma_write_26 : decode prog_4_method_28_code 26 = .ok (.iload_n 1, 1) := by decide +kernel
theorem d_Ma_write_27 : decode prog_4_method_28_code 27 = .ok (.iastore, 1) := by decide +kernel
theorem d_Ma_write_28 : decode prog_4_method_28_code 28 = .ok (.aload_n 0, 1) := by decide +kernel
theorem d_Ma_write_29 : decode prog_4_method_28_code 29 = .ok (.getfield 11, 3) := by decide +kernel
theorem d_Ma_write_32 : decode prog_4_method_28_code 32 = .ok (.bipush 42, 2) := by decide +kernel
theorem d_Ma_write_34 : decode prog_4_method_28_code 34 = .ok (.dup2, 1) := by decide +kernel
theorem d_Ma_write_35 : decode prog_4_method_28_code 35 = .ok (.iaload, 1) := by decide +kernel
theorem d_Ma_write_36 : decode prog_4_method_28_code 36 = .ok (.iconst 1, 1) := by decide +kernel
theorem d_Ma_write_37 : decode prog_4_method_28_code 37 = .ok (.iadd, 1) := by decide +kernel
theorem d_Ma_write_38 : decode prog_4_method_28_code 38 = .ok (.iastore, 1) := by decide +kernel
theorem d_Ma_write_39 : decode prog_4_method_28_code 39 = .ok (.return_, 1) := by decide +kernel
def f_Ma_write (M : cs_Mem) (j : Nat) (x1 : Int32) : cs_Mem :=
  if (nI (cs_ln M (j + 2))) ≤ (M (j + 1) 42) then
    M
  else
    cs_bd (cs_up M (j + 2) (upd (M (j + 2)) (M (j + 1) 42).toNatClampNeg x1)) fun (N5 : cs_Mem) =>
    cs_bd (cs_up N5 (j + 1) (upd (N5 (j + 1)) 42 ((N5 (j + 1) 42) + 1))) fun (N8 : cs_Mem) =>
    N8
def pre_Ma_write (M : cs_Mem) (j : Nat) (x1 : Int32) : Prop :=
  (vp_in 42 (cs_ln M (j + 1))) ∧
  ((nI (cs_ln M (j + 2))) ≤ (M (j + 1) 42) →
    True
  ) ∧ (¬ ((nI (cs_ln M (j + 2))) ≤ (M (j + 1) 42)) →
    (vp_in 42 (cs_ln M (j + 1))) ∧
    (vp_in (M (j + 1) 42) (cs_ln M (j + 2))) ∧
    cs_bd (cs_up M (j + 2) (upd (M (j + 2)) (M (j + 1) 42).toNatClampNeg x1)) fun (N5 : cs_Mem) =>
    (vp_in 42 (cs_ln N5 (j + 1))) ∧
    (vp_in 42 (cs_ln N5 (j + 1))) ∧
    True
  )
set_option maxHeartbeats 4000000 in
set_option maxRecDepth 100000 in
theorem c_Ma_write (l : Launch) (D : va_G) (cA : Nat → ClassId) (ad : Nat → Nat) (M : cs_Mem) (j : Nat) (hj : cs_is 3 j) (x1 : Int32) (hp : pre_Ma_write M j x1) : cs_Cv l ⟨"ClassStarter$Machine", "write", "(I)V"⟩ prog_4_method_28_code 2 none ({ frames := 0, cells := 0, slots := 0, locals := 0 }) D cA ad M [.ref (ad j), .int x1] (f_Ma_write M j x1) := by
  refine cs_entry (by decide) (Nat.le_of_ble_eq_true rfl) (fun p e s m below meth c A ls hC hr hlk _ hw hl => ?_)
  have hx := hC.1
  have hb := hC.2.1
  have hl : lv_has ls 2 [(0, .ref (ad j)), (1, .int x1)] := hl
  generalize hF : f_Ma_write M j x1 = F
  have hf := hF.symm
  unfold f_Ma_write at hf
  unfold pre_Ma_write at hp
  refine lv_aload_n hx hb d_Ma_write_0 rfl (lv_at hl 0 rfl) ?_
  refine gf_Ma_cells hC hw hj wd_131 d_Ma_write_1 ?_
  refine lv_bipush (v := 42) hx hb d_Ma_write_4 (by decide) ?_
  have o1 := hp.1
  have hp := hp.2
  refine cs_iald hC hw (is_Ma1 hj) o1 d_Ma_write_6 ?_
  refine lv_aload_n hx hb d_Ma_write_7 rfl (lv_at hl 0 rfl) ?_
  refine gf_Ma_log hC hw hj wd_132 d_Ma_write_8 ?_
  refine cs_ialen hC hw (is_Ma2 hj) d_Ma_write_11 ?_
  refine lv_icmp_ge (tgt := 39) hx hb d_Ma_write_12 (by decide) (fun c2 => ?_) (fun c2 => ?_)
  · have hp := hp.1 c2
    have hf := hf.trans (if_pos c2)
    exact cs_vret hC hw hr hlk hf d_Ma_write_39
  · have hp := hp.2 c2
    have hf := hf.trans (if_neg c2)
    refine lv_aload_n hx hb d_Ma_write_15 rfl (lv_at hl 0 rfl) ?_
    refine gf_Ma_log hC hw hj wd_132 d_Ma_write_16 ?_
    refine lv_aload_n hx hb d_Ma_write_19 rfl (lv_at hl 0 rfl) ?_
    refine gf_Ma_cells hC hw hj wd_131 d_Ma_write_20 ?_
    refine lv_bipush (v := 42) hx hb d_Ma_write_23 (by decide) ?_
    have o3 := hp.1
    have hp := hp.2
    refine cs_iald hC hw (is_Ma1 hj) o3 d_Ma_write_25 ?_
    refine lv_iload_n hx hb d_Ma_write_26 rfl (lv_at hl 1 rfl) ?_
    have o4 := hp.1
    have hp := hp.2
    refine cs_iast hC hw (is_Ma2 hj) o4 d_Ma_write_27 (fun N5 H locs eN5 hw => ?_)
    have hp := cs_bdP eN5 hp
    have hf := cs_bdE eN5 hf
    refine lv_aload_n hx hb d_Ma_write_28 rfl (lv_at hl 0 rfl) ?_
    refine gf_Ma_cells hC hw hj wd_131 d_Ma_write_29 ?_
    refine lv_bipush (v := 42) hx hb d_Ma_write_32 (by decide) ?_
    refine lv_dup2_11 hx hb d_Ma_write_34 rfl rfl ?_
    have o6 := hp.1
    have hp := hp.2
    refine cs_iald hC hw (is_Ma1 hj) o6 d_Ma_write_35 ?_
    refine lv_iconst (v := 1) hx hb d_Ma_write_36 (by decide) ?_
    refine lv_iadd hx hb d_Ma_write_37 ?_
    have o7 := hp.1
    have hp := hp.2
    refine cs_iast hC hw (is_Ma1 hj) o7 d_Ma_write_38 (fun N8 H locs eN8 hw => ?_)
    have hf := cs_bdE eN8 hf
    exact cs_vret hC hw hr hlk hf d_Ma_write_39
theorem d_Ma_come_0 : decode prog_4_method_27_code 0 = .ok (.aload_n 0, 1) := by decide +kernel
theorem d_Ma_come_1 : decode prog_4_method_27_code 1 = .ok (.iload_n 1, 1) := by decide +kernel
theorem d_Ma_come_2 : decode prog_4_method_27_code 2 = .ok (.invokevirtual 47, 3) := by decide +kernel
theorem d_Ma_come_5 : decode prog_4_method_27_code 5 = .ok (.istore_n 3, 1) := by decide +kernel
theorem d_Ma_come_6 : decode prog_4_method_27_code 6 = .ok (.aload_n 0, 1) := by decide +kernel
theorem d_Ma_come_7 : decode prog_4_method_27_code 7 = .ok (.getfield 18, 3) := by decide +kernel
theorem d_Ma_come_10 : decode prog_4_method_27_code 10 = .ok (.iload_n 3, 1) := by decide +kernel
theorem d_Ma_come_11 : decode prog_4_method_27_code 11 = .ok (.invokevirtual 53, 3) := by decide +kernel
theorem d_Ma_come_14 : decode prog_4_method_27_code 14 = .ok (.aload_n 0, 1) := by decide +kernel
theorem d_Ma_come_15 : decode prog_4_method_27_code 15 = .ok (.getfield 11, 3) := by decide +kernel
theorem d_Ma_come_18 : decode prog_4_method_27_code 18 = .ok (.bipush 24, 2) := by decide +kernel
theorem d_Ma_come_20 : decode prog_4_method_27_code 20 = .ok (.iload_n 3, 1) := by decide +kernel
theorem d_Ma_come_21 : decode prog_4_method_27_code 21 = .ok (.iadd, 1) := by decide +kernel
theorem d_Ma_come_22 : decode prog_4_method_27_code 22 = .ok (.iaload, 1) := by decide +kernel
theorem d_Ma_come_23 : decode prog_4_method_27_code 23 = .ok (.invokevirtual 131, 3) := by decide +kernel
theorem d_Ma_come_26 : decode prog_4_method_27_code 26 = .ok (.ifCond .eq 27, 3) := by decide +kernel
theorem d_Ma_come_29 : decode prog_4_method_27_code 29 = .ok (.aload_n 0, 1) := by decide +kernel
theorem d_Ma_come_30 : decode prog_4_method_27_code 30 = .ok (.iload_n 2, 1) := by decide +kernel
theorem d_Ma_come_31 : decode prog_4_method_27_code 31 = .ok (.invokestatic 134, 3) := by decide +kernel
theorem d_Ma_come_34 : decode prog_4_method_27_code 34 = .ok (.invokevirtual 128, 3) := by decide +kernel
theorem d_Ma_come_37 : decode prog_4_method_27_code 37 = .ok (.aload_n 0, 1) := by decide +kernel
theorem d_Ma_come_38 : decode prog_4_method_27_code 38 = .ok (.getfield 11, 3) := by decide +kernel
theorem d_Ma_come_41 : decode prog_4_method_27_code 41 = .ok (.bipush 24, 2) := by decide +kernel
theorem d_Ma_come_43 : decode prog_4_method_27_code 43 = .ok (.iload_n 3, 1) := by decide +kernel
theorem d_Ma_come_44 : decode prog_4_method_27_code 44 = .ok (.iadd, 1) := by decide +kernel
theorem d_Ma_come_45 : decode prog_4_method_27_code 45 = .ok (.dup2, 1) := by decide +kernel
theorem d_Ma_come_46 : decode prog_4_method_27_code 46 = .ok (.iaload, 1) := by decide +kernel
theorem d_Ma_come_47 : decode prog_4_method_27_code 47 = .ok (.iconst 1, 1) := by decide +kernel
theorem d_Ma_come_48 : decode prog_4_method_27_code 48 = .ok (.iadd, 1) := by decide +kernel
theorem d_Ma_come_49 : decode prog_4_method_27_code 49 = .ok (.iastore, 1) := by decide +kernel
theorem d_Ma_come_50 : decode prog_4_method_27_code 50 = .ok (.goto 13, 3) := by decide +kernel
theorem d_Ma_come_53 : decode prog_4_method_27_code 53 = .ok (.aload_n 0, 1) := by decide +kernel
theorem d_Ma_come_54 : decode prog_4_method_27_code 54 = .ok (.getfield 11, 3) := by decide +kernel
theorem d_Ma_come_57 : decode prog_4_method_27_code 57 = .ok (.bipush 38, 2) := by decide +kernel
theorem d_Ma_come_59 : decode prog_4_method_27_code 59 = .ok (.iload_n 1, 1) := by decide +kernel
theorem d_Ma_come_60 : decode prog_4_method_27_code 60 = .ok (.iadd, 1) := by decide +kernel
theorem d_Ma_come_61 : decode prog_4_method_27_code 61 = .ok (.iload_n 2, 1) := by decide +kernel
theorem d_Ma_come_62 : decode prog_4_method_27_code 62 = .ok (.iastore, 1) := by decide +kernel
theorem d_Ma_come_63 : decode prog_4_method_27_code 63 = .ok (.return_, 1) := by decide +kernel
def f_Ma_come (M : cs_Mem) (j : Nat) (x1 : Int32) (x2 : Int32) : cs_Mem :=
  cs_bd (f_Ma_topFrame M j x1) fun (r2 : Int32) =>
  cs_bd (f_Pr_script M 1 r2) fun (r4 : Nat) =>
  cs_bd (f_Sc_isGuarded M r4 (M (j + 1) (24 + r2).toNatClampNeg)) fun (r7 : Int32) =>
  if r7 = 0 then
    cs_bd (cs_up M (j + 1) (upd (M (j + 1)) (38 + x1).toNatClampNeg x2)) fun (N10 : cs_Mem) =>
    N10
  else
    cs_bd (f_Fa_number M x2) fun (r11 : Int32) =>
    cs_bd (f_Ma_write M j r11) fun (u13 : cs_Mem) =>
    cs_bd (cs_up u13 (j + 1) (upd (u13 (j + 1)) (24 + r2).toNatClampNeg ((u13 (j + 1) (24 + r2).toNatClampNeg) + 1))) fun (N16 : cs_Mem) =>
    N16
def pre_Ma_come (M : cs_Mem) (j : Nat) (x1 : Int32) (x2 : Int32) : Prop :=
  (pre_Ma_topFrame M j x1) ∧
  cs_bd (f_Ma_topFrame M j x1) fun (r2 : Int32) =>
  (pre_Pr_script M 1 r2) ∧
  cs_bd (f_Pr_script M 1 r2) fun (r4 : Nat) =>
  (vp_in (24 + r2) (cs_ln M (j + 1))) ∧
  (pre_Sc_isGuarded M r4 (M (j + 1) (24 + r2).toNatClampNeg)) ∧
  cs_bd (f_Sc_isGuarded M r4 (M (j + 1) (24 + r2).toNatClampNeg)) fun (r7 : Int32) =>
  (r7 = 0 →
    (vp_in (38 + x1) (cs_ln M (j + 1))) ∧
    True
  ) ∧ (¬ (r7 = 0) →
    cs_bd (f_Fa_number M x2) fun (r11 : Int32) =>
    (pre_Ma_write M j r11) ∧
    cs_bd (f_Ma_write M j r11) fun (u13 : cs_Mem) =>
    (vp_in (24 + r2) (cs_ln u13 (j + 1))) ∧
    (vp_in (24 + r2) (cs_ln u13 (j + 1))) ∧
    True
  )
set_option maxHeartbeats 4000000 in
set_option maxRecDepth 100000 in
theorem c_Ma_come (l : Launch) (D : va_G) (cA : Nat → ClassId) (ad : Nat → Nat) (M : cs_Mem) (j : Nat) (hj : cs_is 3 j) (x1 : Int32) (x2 : Int32) (hp : pre_Ma_come M j x1 x2) : cs_Cv l ⟨"ClassStarter$Machine", "come", "(II)V"⟩ prog_4_method_27_code 4 none ({ frames := 2, cells := 0, slots := 0, locals := 40 }) D cA ad M [.ref (ad j), .int x1, .int x2] (f_Ma_come M j x1 x2) := by
  refine cs_entry (by decide) (Nat.le_of_ble_eq_true rfl) (fun p e s m below meth c A ls hC hr hlk _ hw hl => ?_)
  have hx := hC.1
  have hb := hC.2.1
  have hl : lv_has ls 4 [(0, .ref (ad j)), (1, .int x1), (2, .int x2)] := hl
  generalize hF : f_Ma_come M j x1 x2 = F
  have hf := hF.symm
  unfold f_Ma_come at hf
  unfold pre_Ma_come at hp
  refine lv_aload_n hx hb d_Ma_come_0 rfl (lv_at hl 0 rfl) ?_
  refine lv_iload_n hx hb d_Ma_come_1 rfl (lv_at hl 1 rfl) ?_
  have o1 := hp.1
  have hp := hp.2
  refine cs_ret_p hC hw (cs_runV (As := [.int x1]) (rest := []) hC hw hj.2 (ci := 3) rfl rfl (cs_sg_is hj) (c_Ma_topFrame l D cA ad M j hj x1 o1 _) rfl rfl cw_Ma_47 ⟨Nat.le_of_ble_eq_true rfl, Nat.le_of_ble_eq_true rfl⟩ hl.1 rfl rfl (Nat.le_of_ble_eq_true rfl) d_Ma_come_2 ⟨Nat.zero_le _, Nat.zero_le _⟩) (fun r2 H locs er2 hw => ?_)
  have hp := cs_bdP er2 hp
  have hf := cs_bdE er2 hf
  refine lv_istore_n (lv' := [(3, .int r2), (0, .ref (ad j)), (1, .int x1), (2, .int x2)]) hx hb d_Ma_come_5 rfl hl (by decide) rfl (fun ls hl => ?_)
  refine lv_aload_n hx hb d_Ma_come_6 rfl (lv_at hl 1 rfl) ?_
  refine gf_Ma_program hC hw hj wd_130 d_Ma_come_7 ?_
  refine lv_iload_n hx hb d_Ma_come_10 rfl (lv_at hl 0 rfl) ?_
  have o3 := hp.1
  have hp := hp.2
  refine cs_ret_rp hC hw (cs_runV (As := [.int r2]) (rest := []) hC hw is_1.2 (ci := 1) rfl rfl (cs_sg_is is_1) (c_Pr_script l D cA ad M 1 is_1 r2 o3 _) rfl rfl cw_Ma_53 ⟨Nat.le_of_ble_eq_true rfl, Nat.le_of_ble_eq_true rfl⟩ hl.1 rfl rfl (Nat.le_of_ble_eq_true rfl) d_Ma_come_11 ⟨Nat.zero_le _, Nat.zero_le _⟩) (fun r4 H locs er4 hw => ?_)
  have hp := cs_bdP er4 hp
  have hf := cs_bdE er4 hf
  refine lv_aload_n hx hb d_Ma_come_14 rfl (lv_at hl 1 rfl) ?_
  refine gf_Ma_cells hC hw hj wd_131 d_Ma_come_15 ?_
  refine lv_bipush (v := 24) hx hb d_Ma_come_18 (by decide) ?_
  refine lv_iload_n hx hb d_Ma_come_20 rfl (lv_at hl 0 rfl) ?_
  refine lv_iadd hx hb d_Ma_come_21 ?_
  have o5 := hp.1
  have hp := hp.2
  refine cs_iald hC hw (is_Ma1 hj) o5 d_Ma_come_22 ?_
  have o6 := hp.1
  have hp := hp.2
  refine cs_ret_p hC hw (cs_runV (As := [.int (M (j + 1) (24 + r2).toNatClampNeg)]) (rest := []) hC hw (is_script er4 o3).2 (ci := 2) rfl rfl (cs_sg_is (is_script er4 o3)) (c_Sc_isGuarded l D cA ad M r4 (is_script er4 o3) (M (j + 1) (24 + r2).toNatClampNeg) o6 _) rfl rfl cw_Ma_131 ⟨Nat.le_of_ble_eq_true rfl, Nat.le_of_ble_eq_true rfl⟩ hl.1 rfl rfl (Nat.le_of_ble_eq_true rfl) d_Ma_come_23 ⟨Nat.zero_le _, Nat.zero_le _⟩) (fun r7 H locs er7 hw => ?_)
  have hp := cs_bdP er7 hp
  have hf := cs_bdE er7 hf
  refine lv_if_eq (tgt := 53) hx hb d_Ma_come_26 (by decide) (fun c8 => ?_) (fun c8 => ?_)
  · have hp := hp.1 c8
    have hf := hf.trans (if_pos c8)
    refine lv_aload_n hx hb d_Ma_come_53 rfl (lv_at hl 1 rfl) ?_
    refine gf_Ma_cells hC hw hj wd_131 d_Ma_come_54 ?_
    refine lv_bipush (v := 38) hx hb d_Ma_come_57 (by decide) ?_
    refine lv_iload_n hx hb d_Ma_come_59 rfl (lv_at hl 2 rfl) ?_
    refine lv_iadd hx hb d_Ma_come_60 ?_
    refine lv_iload_n hx hb d_Ma_come_61 rfl (lv_at hl 3 rfl) ?_
    have o9 := hp.1
    have hp := hp.2
    refine cs_iast hC hw (is_Ma1 hj) o9 d_Ma_come_62 (fun N10 H locs eN10 hw => ?_)
    have hf := cs_bdE eN10 hf
    exact cs_vret hC hw hr hlk hf d_Ma_come_63
  · have hp := hp.2 c8
    have hf := hf.trans (if_neg c8)
    refine lv_aload_n hx hb d_Ma_come_29 rfl (lv_at hl 1 rfl) ?_
    refine lv_iload_n hx hb d_Ma_come_30 rfl (lv_at hl 3 rfl) ?_
    refine cs_ret_p hC hw (cs_runS (As := [.int x2]) (rest := [.ref (ad j)]) hC hw (c_Fa_number l D cA ad M x2 _) rfl rfl cw_Ma_134 ⟨Nat.le_of_ble_eq_true rfl, Nat.le_of_ble_eq_true rfl⟩ hl.1 rfl rfl (Nat.le_of_ble_eq_true rfl) d_Ma_come_31 ⟨Nat.zero_le _, Nat.zero_le _⟩) (fun r11 H locs er11 hw => ?_)
    have hp := cs_bdP er11 hp
    have hf := cs_bdE er11 hf
    have o12 := hp.1
    have hp := hp.2
    refine cs_ret_v hC hw (cs_runV (As := [.int r11]) (rest := []) hC hw hj.2 (ci := 3) rfl rfl (cs_sg_is hj) (c_Ma_write l D cA ad M j hj r11 o12 _) rfl rfl cw_Ma_128 ⟨Nat.le_of_ble_eq_true rfl, Nat.le_of_ble_eq_true rfl⟩ hl.1 rfl rfl (Nat.le_of_ble_eq_true rfl) d_Ma_come_34 ⟨Nat.zero_le _, Nat.zero_le _⟩) (fun u13 H locs eu13 hw => ?_)
    have hp := cs_bdP eu13 hp
    have hf := cs_bdE eu13 hf
    refine lv_aload_n hx hb d_Ma_come_37 rfl (lv_at hl 1 rfl) ?_
    refine gf_Ma_cells hC hw hj wd_131 d_Ma_come_38 ?_
    refine lv_bipush (v := 24) hx hb d_Ma_come_41 (by decide) ?_
    refine lv_iload_n hx hb d_Ma_come_43 rfl (lv_at hl 0 rfl) ?_
    refine lv_iadd hx hb d_Ma_come_44 ?_
    refine lv_dup2_11 hx hb d_Ma_come_45 rfl rfl ?_
    have o14 := hp.1
    have hp := hp.2
    refine cs_iald hC hw (is_Ma1 hj) o14 d_Ma_come_46 ?_
    refine lv_iconst (v := 1) hx hb d_Ma_come_47 (by decide) ?_
    refine lv_iadd hx hb d_Ma_come_48 ?_
    have o15 := hp.1
    have hp := hp.2
    refine cs_iast hC hw (is_Ma1 hj) o15 d_Ma_come_49 (fun N16 H locs eN16 hw => ?_)
    have hf := cs_bdE eN16 hf
    refine lv_goto (tgt := 63) hx hb d_Ma_come_50 (by decide) ?_
    exact cs_vret hC hw hr hlk hf d_Ma_come_63
theorem d_Ma_failTop_0 : decode prog_4_method_20_code 0 = .ok (.aload_n 0, 1) := by decide +kernel
theorem d_Ma_failTop_1 : decode prog_4_method_20_code 1 = .ok (.getfield 11, 3) := by decide +kernel
theorem d_Ma_failTop_4 : decode prog_4_method_20_code 4 = .ok (.bipush 38, 2) := by decide +kernel
theorem d_Ma_failTop_6 : decode prog_4_method_20_code 6 = .ok (.iload_n 1, 1) := by decide +kernel
theorem d_Ma_failTop_7 : decode prog_4_method_20_code 7 = .ok (.iadd, 1) := by decide +kernel
theorem d_Ma_failTop_8 : decode prog_4_method_20_code 8 = .ok (.iaload, 1) := by decide +kernel
theorem d_Ma_failTop_9 : decode prog_4_method_20_code 9 = .ok (.istore_n 2, 1) := by decide +kernel
theorem d_Ma_failTop_10 : decode prog_4_method_20_code 10 = .ok (.aload_n 0, 1) := by decide +kernel
theorem d_Ma_failTop_11 : decode prog_4_method_20_code 11 = .ok (.getfield 11, 3) := by decide +kernel
theorem d_Ma_failTop_14 : decode prog_4_method_20_code 14 = .ok (.bipush 38, 2) := by decide +kernel
theorem d_Ma_failTop_16 : decode prog_4_method_20_code 16 = .ok (.iload_n 1, 1) := by decide +kernel
theorem d_Ma_failTop_17 : decode prog_4_method_20_code 17 = .ok (.iadd, 1) := by decide +kernel
theorem d_Ma_failTop_18 : decode prog_4_method_20_code 18 = .ok (.iconst 0, 1) := by decide +kernel
theorem d_Ma_failTop_19 : decode prog_4_method_20_code 19 = .ok (.iastore, 1) := by decide +kernel
theorem d_Ma_failTop_20 : decode prog_4_method_20_code 20 = .ok (.aload_n 0, 1) := by decide +kernel
theorem d_Ma_failTop_21 : decode prog_4_method_20_code 21 = .ok (.iload_n 1, 1) := by decide +kernel
theorem d_Ma_failTop_22 : decode prog_4_method_20_code 22 = .ok (.iconst 2, 1) := by decide +kernel
theorem d_Ma_failTop_23 : decode prog_4_method_20_code 23 = .ok (.invokevirtual 98, 3) := by decide +kernel
theorem d_Ma_failTop_26 : decode prog_4_method_20_code 26 = .ok (.aload_n 0, 1) := by decide +kernel
theorem d_Ma_failTop_27 : decode prog_4_method_20_code 27 = .ok (.iload_n 1, 1) := by decide +kernel
theorem d_Ma_failTop_28 : decode prog_4_method_20_code 28 = .ok (.iload_n 2, 1) := by decide +kernel
theorem d_Ma_failTop_29 : decode prog_4_method_20_code 29 = .ok (.invokestatic 101, 3) := by decide +kernel
theorem d_Ma_failTop_32 : decode prog_4_method_20_code 32 = .ok (.invokevirtual 104, 3) := by decide +kernel
theorem d_Ma_failTop_35 : decode prog_4_method_20_code 35 = .ok (.return_, 1) := by decide +kernel
def f_Ma_failTop (M : cs_Mem) (j : Nat) (x1 : Int32) : cs_Mem :=
  cs_bd (M (j + 1) (38 + x1).toNatClampNeg) fun (z2 : Int32) =>
  cs_bd (cs_up M (j + 1) (upd (M (j + 1)) (38 + x1).toNatClampNeg 0)) fun (N4 : cs_Mem) =>
  cs_bd (f_Ma_dropTop N4 j x1 2) fun (u6 : cs_Mem) =>
  cs_bd (f_Fa_outside u6 z2) fun (r7 : Int32) =>
  cs_bd (f_Ma_come u6 j x1 r7) fun (u9 : cs_Mem) =>
  u9
def pre_Ma_failTop (M : cs_Mem) (j : Nat) (x1 : Int32) : Prop :=
  (vp_in (38 + x1) (cs_ln M (j + 1))) ∧
  cs_bd (M (j + 1) (38 + x1).toNatClampNeg) fun (z2 : Int32) =>
  (vp_in (38 + x1) (cs_ln M (j + 1))) ∧
  cs_bd (cs_up M (j + 1) (upd (M (j + 1)) (38 + x1).toNatClampNeg 0)) fun (N4 : cs_Mem) =>
  (pre_Ma_dropTop N4 j x1 2) ∧
  cs_bd (f_Ma_dropTop N4 j x1 2) fun (u6 : cs_Mem) =>
  cs_bd (f_Fa_outside u6 z2) fun (r7 : Int32) =>
  (pre_Ma_come u6 j x1 r7) ∧
  True
set_option maxHeartbeats 4000000 in
set_option maxRecDepth 100000 in
theorem c_Ma_failTop (l : Launch) (D : va_G) (cA : Nat → ClassId) (ad : Nat → Nat) (M : cs_Mem) (j : Nat) (hj : cs_is 3 j) (x1 : Int32) (hp : pre_Ma_failTop M j x1) : cs_Cv l ⟨"ClassStarter$Machine", "failTop", "(I)V"⟩ prog_4_method_20_code 3 none ({ frames := 3, cells := 0, slots := 0, locals := 63 }) D cA ad M [.ref (ad j), .int x1] (f_Ma_failTop M j x1) := by
  refine cs_entry (by decide) (Nat.le_of_ble_eq_true rfl) (fun p e s m below meth c A ls hC hr hlk _ hw hl => ?_)
  have hx := hC.1
  have hb := hC.2.1
  have hl : lv_has ls 3 [(0, .ref (ad j)), (1, .int x1)] := hl
  generalize hF : f_Ma_failTop M j x1 = F
  have hf := hF.symm
  unfold f_Ma_failTop at hf
  unfold pre_Ma_failTop at hp
  refine lv_aload_n hx hb d_Ma_failTop_0 rfl (lv_at hl 0 rfl) ?_
  refine gf_Ma_cells hC hw hj wd_131 d_Ma_failTop_1 ?_
  refine lv_bipush (v := 38) hx hb d_Ma_failTop_4 (by decide) ?_
  refine lv_iload_n hx hb d_Ma_failTop_6 rfl (lv_at hl 1 rfl) ?_
  refine lv_iadd hx hb d_Ma_failTop_7 ?_
  have o1 := hp.1
  have hp := hp.2
  refine cs_iald hC hw (is_Ma1 hj) o1 d_Ma_failTop_8 ?_
  refine lv_topi (fun z2 ez2 => ?_)
  have hp := cs_bdP ez2 hp
  have hf := cs_bdE ez2 hf
  refine lv_istore_n (lv' := [(2, .int z2), (0, .ref (ad j)), (1, .int x1)]) hx hb d_Ma_failTop_9 rfl hl (by decide) rfl (fun ls hl => ?_)
  refine lv_aload_n hx hb d_Ma_failTop_10 rfl (lv_at hl 1 rfl) ?_
  refine gf_Ma_cells hC hw hj wd_131 d_Ma_failTop_11 ?_
  refine lv_bipush (v := 38) hx hb d_Ma_failTop_14 (by decide) ?_
  refine lv_iload_n hx hb d_Ma_failTop_16 rfl (lv_at hl 2 rfl) ?_
  refine lv_iadd hx hb d_Ma_failTop_17 ?_
  refine lv_iconst (v := 0) hx hb d_Ma_failTop_18 (by decide) ?_
  have o3 := hp.1
  have hp := hp.2
  refine cs_iast hC hw (is_Ma1 hj) o3 d_Ma_failTop_19 (fun N4 H locs eN4 hw => ?_)
  have hp := cs_bdP eN4 hp
  have hf := cs_bdE eN4 hf
  refine lv_aload_n hx hb d_Ma_failTop_20 rfl (lv_at hl 1 rfl) ?_
  refine lv_iload_n hx hb d_Ma_failTop_21 rfl (lv_at hl 2 rfl) ?_
  refine lv_iconst (v := 2) hx hb d_Ma_failTop_22 (by decide) ?_
  have o5 := hp.1
  have hp := hp.2
  refine cs_ret_v hC hw (cs_runV (As := [.int x1, .int 2]) (rest := []) hC hw hj.2 (ci := 3) rfl rfl (cs_sg_is hj) (c_Ma_dropTop l D cA ad N4 j hj x1 2 o5 _) rfl rfl cw_Ma_98 ⟨Nat.le_of_ble_eq_true rfl, Nat.le_of_ble_eq_true rfl⟩ hl.1 rfl rfl (Nat.le_of_ble_eq_true rfl) d_Ma_failTop_23 ⟨Nat.zero_le _, Nat.zero_le _⟩) (fun u6 H locs eu6 hw => ?_)
  have hp := cs_bdP eu6 hp
  have hf := cs_bdE eu6 hf
  refine lv_aload_n hx hb d_Ma_failTop_26 rfl (lv_at hl 1 rfl) ?_
  refine lv_iload_n hx hb d_Ma_failTop_27 rfl (lv_at hl 2 rfl) ?_
  refine lv_iload_n hx hb d_Ma_failTop_28 rfl (lv_at hl 0 rfl) ?_
  refine cs_ret_p hC hw (cs_runS (As := [.int z2]) (rest := [.int x1, .ref (ad j)]) hC hw (c_Fa_outside l D cA ad u6 z2 _) rfl rfl cw_Ma_101 ⟨Nat.le_of_ble_eq_true rfl, Nat.le_of_ble_eq_true rfl⟩ hl.1 rfl rfl (Nat.le_of_ble_eq_true rfl) d_Ma_failTop_29 ⟨Nat.zero_le _, Nat.zero_le _⟩) (fun r7 H locs er7 hw => ?_)
  have hp := cs_bdP er7 hp
  have hf := cs_bdE er7 hf
  have o8 := hp.1
  have hp := hp.2
  refine cs_ret_v hC hw (cs_runV (As := [.int x1, .int r7]) (rest := []) hC hw hj.2 (ci := 3) rfl rfl (cs_sg_is hj) (c_Ma_come l D cA ad u6 j hj x1 r7 o8 _) rfl rfl cw_Ma_104 ⟨Nat.le_of_ble_eq_true rfl, Nat.le_of_ble_eq_true rfl⟩ hl.1 rfl rfl (Nat.le_of_ble_eq_true rfl) d_Ma_failTop_32 ⟨Nat.zero_le _, Nat.zero_le _⟩) (fun u9 H locs eu9 hw => ?_)
  have hf := cs_bdE eu9 hf
  exact cs_vret hC hw hr hlk hf d_Ma_failTop_35
theorem d_Ma_staticOf_0 : decode prog_4_method_8_code 0 = .ok (.iload_n 2, 1) := by decide +kernel
theorem d_Ma_staticOf_1 : decode prog_4_method_8_code 1 = .ok (.ifCond .ne 15, 3) := by decide +kernel
theorem d_Ma_staticOf_4 : decode prog_4_method_8_code 4 = .ok (.aload_n 0, 1) := by decide +kernel
theorem d_Ma_staticOf_5 : decode prog_4_method_8_code 5 = .ok (.getfield 11, 3) := by decide +kernel
theorem d_Ma_staticOf_8 : decode prog_4_method_8_code 8 = .ok (.bipush 8, 2) := by decide +kernel
theorem d_Ma_staticOf_10 : decode prog_4_method_8_code 10 = .ok (.iload_n 1, 1) := by decide +kernel
theorem d_Ma_staticOf_11 : decode prog_4_method_8_code 11 = .ok (.iadd, 1) := by decide +kernel
theorem d_Ma_staticOf_12 : decode prog_4_method_8_code 12 = .ok (.iaload, 1) := by decide +kernel
theorem d_Ma_staticOf_13 : decode prog_4_method_8_code 13 = .ok (.goto 11, 3) := by decide +kernel
theorem d_Ma_staticOf_16 : decode prog_4_method_8_code 16 = .ok (.aload_n 0, 1) := by decide +kernel
theorem d_Ma_staticOf_17 : decode prog_4_method_8_code 17 = .ok (.getfield 18, 3) := by decide +kernel
theorem d_Ma_staticOf_20 : decode prog_4_method_8_code 20 = .ok (.iload_n 1, 1) := by decide +kernel
theorem d_Ma_staticOf_21 : decode prog_4_method_8_code 21 = .ok (.invokevirtual 37, 3) := by decide +kernel
theorem d_Ma_staticOf_24 : decode prog_4_method_8_code 24 = .ok (.ireturn, 1) := by decide +kernel
def f_Ma_staticOf (M : cs_Mem) (j : Nat) (x1 : Int32) (x2 : Int32) : Int32 :=
  if x2 = 0 then
    M (j + 1) (8 + x1).toNatClampNeg
  else
    cs_bd (f_Pr_secondStatic M 1 x1) fun (r3 : Int32) =>
    r3
def pre_Ma_staticOf (M : cs_Mem) (j : Nat) (x1 : Int32) (x2 : Int32) : Prop :=
  (x2 = 0 →
    (vp_in (8 + x1) (cs_ln M (j + 1))) ∧
    True
  ) ∧ (¬ (x2 = 0) →
    (pre_Pr_secondStatic M 1 x1) ∧
    True
  )
set_option maxHeartbeats 4000000 in
set_option maxRecDepth 100000 in
theorem c_Ma_staticOf (l : Launch) (D : va_G) (cA : Nat → ClassId) (ad : Nat → Nat) (M : cs_Mem) (j : Nat) (hj : cs_is 3 j) (x1 : Int32) (x2 : Int32) (hp : pre_Ma_staticOf M j x1 x2) : cs_Ci l ⟨"ClassStarter$Machine", "staticOf", "(II)I"⟩ prog_4_method_8_code 3 (some .int) ({ frames := 1, cells := 0, slots := 0, locals := 21 }) D cA ad M [.ref (ad j), .int x1, .int x2] ((f_Ma_staticOf M j x1 x2, M)) := by
  refine cs_entry (by decide) (Nat.le_of_ble_eq_true rfl) (fun p e s m below meth c A ls hC hr hlk _ hw hl => ?_)
  have hx := hC.1
  have hb := hC.2.1
  have hl : lv_has ls 3 [(0, .ref (ad j)), (1, .int x1), (2, .int x2)] := hl
  generalize hF : f_Ma_staticOf M j x1 x2 = F
  have hf := hF.symm
  unfold f_Ma_staticOf at hf
  unfold pre_Ma_staticOf at hp
  refine lv_iload_n hx hb d_Ma_staticOf_0 rfl (lv_at hl 2 rfl) ?_
  refine lv_if_ne (tgt := 16) hx hb d_Ma_staticOf_1 (by decide) (fun c1 => ?_) (fun c1 => ?_)
  · have hp := hp.2 c1
    have hf := hf.trans (if_neg c1)
    refine lv_aload_n hx hb d_Ma_staticOf_16 rfl (lv_at hl 0 rfl) ?_
    refine gf_Ma_program hC hw hj wd_130 d_Ma_staticOf_17 ?_
    refine lv_iload_n hx hb d_Ma_staticOf_20 rfl (lv_at hl 1 rfl) ?_
    have o2 := hp.1
    have hp := hp.2
    refine cs_ret_p hC hw (cs_runV (As := [.int x1]) (rest := []) hC hw is_1.2 (ci := 1) rfl rfl (cs_sg_is is_1) (c_Pr_secondStatic l D cA ad M 1 is_1 x1 o2 _) rfl rfl cw_Ma_37 ⟨Nat.le_of_ble_eq_true rfl, Nat.le_of_ble_eq_true rfl⟩ hl.1 rfl rfl (Nat.le_of_ble_eq_true rfl) d_Ma_staticOf_21 ⟨Nat.zero_le _, Nat.zero_le _⟩) (fun r3 H locs er3 hw => ?_)
    have hf := cs_bdE er3 hf
    exact cs_iret hC hw hr hlk (congrArg (fun z => (z, M)) hf) d_Ma_staticOf_24
  · have hp := hp.1 c1
    have hf := hf.trans (if_pos c1)
    refine lv_aload_n hx hb d_Ma_staticOf_4 rfl (lv_at hl 0 rfl) ?_
    refine gf_Ma_cells hC hw hj wd_131 d_Ma_staticOf_5 ?_
    refine lv_bipush (v := 8) hx hb d_Ma_staticOf_8 (by decide) ?_
    refine lv_iload_n hx hb d_Ma_staticOf_10 rfl (lv_at hl 1 rfl) ?_
    refine lv_iadd hx hb d_Ma_staticOf_11 ?_
    have o4 := hp.1
    have hp := hp.2
    refine cs_iald hC hw (is_Ma1 hj) o4 d_Ma_staticOf_12 ?_
    refine lv_goto (tgt := 24) hx hb d_Ma_staticOf_13 (by decide) ?_
    exact cs_iret hC hw hr hlk (congrArg (fun z => (z, M)) hf) d_Ma_staticOf_24
theorem d_Ma_makeUse_0 : decode prog_4_method_25_code 0 = .ok (.aload_n 0, 1) := by decide +kernel
theorem d_Ma_makeUse_1 : decode prog_4_method_25_code 1 = .ok (.iload_n 1, 1) := by decide +kernel
theorem d_Ma_makeUse_2 : decode prog_4_method_25_code 2 = .ok (.invokevirtual 47, 3) := by decide +kernel
theorem d_Ma_makeUse_5 : decode prog_4_method_25_code 5 = .ok (.istore_n 2, 1) := by decide +kernel
theorem d_Ma_makeUse_6 : decode prog_4_method_25_code 6 = .ok (.aload_n 0, 1) := by decide +kernel
theorem d_Ma_makeUse_7 : decode prog_4_method_25_code 7 = .ok (.getfield 11, 3) := by decide +kernel
theorem d_Ma_makeUse_10 : decode prog_4_method_25_code 10 = .ok (.bipush 24, 2) := by decide +kernel
theorem d_Ma_makeUse_12 : decode prog_4_method_25_code 12 = .ok (.iload_n 2, 1) := by decide +kernel
theorem d_Ma_makeUse_13 : decode prog_4_method_25_code 13 = .ok (.iadd, 1) := by decide +kernel
theorem d_Ma_makeUse_14 : decode prog_4_method_25_code 14 = .ok (.iaload, 1) := by decide +kernel
theorem d_Ma_makeUse_15 : decode prog_4_method_25_code 15 = .ok (.istore_n 3, 1) := by decide +kernel
theorem d_Ma_makeUse_16 : decode prog_4_method_25_code 16 = .ok (.aload_n 0, 1) := by decide +kernel
theorem d_Ma_makeUse_17 : decode prog_4_method_25_code 17 = .ok (.getfield 18, 3) := by decide +kernel
theorem d_Ma_makeUse_20 : decode prog_4_method_25_code 20 = .ok (.iload_n 2, 1) := by decide +kernel
theorem d_Ma_makeUse_21 : decode prog_4_method_25_code 21 = .ok (.invokevirtual 53, 3) := by decide +kernel
theorem d_Ma_makeUse_24 : decode prog_4_method_25_code 24 = .ok (.astore 4, 2) := by decide +kernel
theorem d_Ma_makeUse_26 : decode prog_4_method_25_code 26 = .ok (.aload 4, 2) := by decide +kernel
theorem d_Ma_makeUse_28 : decode prog_4_method_25_code 28 = .ok (.iload_n 3, 1) := by decide +kernel
theorem d_Ma_makeUse_29 : decode prog_4_method_25_code 29 = .ok (.invokevirtual 116, 3) := by decide +kernel
theorem d_Ma_makeUse_32 : decode prog_4_method_25_code 32 = .ok (.iconst 2, 1) := by decide +kernel
theorem d_Ma_makeUse_33 : decode prog_4_method_25_code 33 = .ok (.if_icmp .ne 28, 3) := by decide +kernel
theorem d_Ma_makeUse_36 : decode prog_4_method_25_code 36 = .ok (.aload_n 0, 1) := by decide +kernel
theorem d_Ma_makeUse_37 : decode prog_4_method_25_code 37 = .ok (.getfield 11, 3) := by decide +kernel
theorem d_Ma_makeUse_40 : decode prog_4_method_25_code 40 = .ok (.bipush 8, 2) := by decide +kernel
theorem d_Ma_makeUse_42 : decode prog_4_method_25_code 42 = .ok (.iload_n 2, 1) := by decide +kernel
theorem d_Ma_makeUse_43 : decode prog_4_method_25_code 43 = .ok (.iadd, 1) := by decide +kernel
theorem d_Ma_makeUse_44 : decode prog_4_method_25_code 44 = .ok (.aload_n 0, 1) := by decide +kernel
theorem d_Ma_makeUse_45 : decode prog_4_method_25_code 45 = .ok (.aload 4, 2) := by decide +kernel
theorem d_Ma_makeUse_47 : decode prog_4_method_25_code 47 = .ok (.iload_n 3, 1) := by decide +kernel
theorem d_Ma_makeUse_48 : decode prog_4_method_25_code 48 = .ok (.invokevirtual 119, 3) := by decide +kernel
theorem d_Ma_makeUse_51 : decode prog_4_method_25_code 51 = .ok (.aload 4, 2) := by decide +kernel
theorem d_Ma_makeUse_53 : decode prog_4_method_25_code 53 = .ok (.iload_n 3, 1) := by decide +kernel
theorem d_Ma_makeUse_54 : decode prog_4_method_25_code 54 = .ok (.invokevirtual 122, 3) := by decide +kernel
theorem d_Ma_makeUse_57 : decode prog_4_method_25_code 57 = .ok (.invokevirtual 125, 3) := by decide +kernel
theorem d_Ma_makeUse_60 : decode prog_4_method_25_code 60 = .ok (.iastore, 1) := by decide +kernel
theorem d_Ma_makeUse_61 : decode prog_4_method_25_code 61 = .ok (.aload_n 0, 1) := by decide +kernel
theorem d_Ma_makeUse_62 : decode prog_4_method_25_code 62 = .ok (.getfield 11, 3) := by decide +kernel
theorem d_Ma_makeUse_65 : decode prog_4_method_25_code 65 = .ok (.bipush 24, 2) := by decide +kernel
theorem d_Ma_makeUse_67 : decode prog_4_method_25_code 67 = .ok (.iload_n 2, 1) := by decide +kernel
theorem d_Ma_makeUse_68 : decode prog_4_method_25_code 68 = .ok (.iadd, 1) := by decide +kernel
theorem d_Ma_makeUse_69 : decode prog_4_method_25_code 69 = .ok (.dup2, 1) := by decide +kernel
theorem d_Ma_makeUse_70 : decode prog_4_method_25_code 70 = .ok (.iaload, 1) := by decide +kernel
theorem d_Ma_makeUse_71 : decode prog_4_method_25_code 71 = .ok (.iconst 1, 1) := by decide +kernel
theorem d_Ma_makeUse_72 : decode prog_4_method_25_code 72 = .ok (.iadd, 1) := by decide +kernel
theorem d_Ma_makeUse_73 : decode prog_4_method_25_code 73 = .ok (.iastore, 1) := by decide +kernel
theorem d_Ma_makeUse_74 : decode prog_4_method_25_code 74 = .ok (.return_, 1) := by decide +kernel
def f_Ma_makeUse (M : cs_Mem) (j : Nat) (x1 : Int32) : cs_Mem :=
  cs_bd (f_Ma_topFrame M j x1) fun (r2 : Int32) =>
  cs_bd (M (j + 1) (24 + r2).toNatClampNeg) fun (z4 : Int32) =>
  cs_bd (f_Pr_script M 1 r2) fun (r6 : Nat) =>
  cs_bd (f_Sc_actionAt M r6 z4) fun (r8 : Int32) =>
  if r8 = 2 then
    cs_bd (f_Sc_secondOperandAt M r6 z4) fun (r14 : Int32) =>
    cs_bd (f_Sc_firstOperandAt M r6 z4) fun (r16 : Int32) =>
    cs_bd (f_Ma_staticOf M j r14 r16) fun (r18 : Int32) =>
    cs_bd (cs_up M (j + 1) (upd (M (j + 1)) (8 + r2).toNatClampNeg r18)) fun (N20 : cs_Mem) =>
    cs_bd (cs_up N20 (j + 1) (upd (N20 (j + 1)) (24 + r2).toNatClampNeg ((N20 (j + 1) (24 + r2).toNatClampNeg) + 1))) fun (N23 : cs_Mem) =>
    N23
  else
    cs_bd (cs_up M (j + 1) (upd (M (j + 1)) (24 + r2).toNatClampNeg ((M (j + 1) (24 + r2).toNatClampNeg) + 1))) fun (N12 : cs_Mem) =>
    N12
def pre_Ma_makeUse (M : cs_Mem) (j : Nat) (x1 : Int32) : Prop :=
  (pre_Ma_topFrame M j x1) ∧
  cs_bd (f_Ma_topFrame M j x1) fun (r2 : Int32) =>
  (vp_in (24 + r2) (cs_ln M (j + 1))) ∧
  cs_bd (M (j + 1) (24 + r2).toNatClampNeg) fun (z4 : Int32) =>
  (pre_Pr_script M 1 r2) ∧
  cs_bd (f_Pr_script M 1 r2) fun (r6 : Nat) =>
  (pre_Sc_actionAt M r6 z4) ∧
  cs_bd (f_Sc_actionAt M r6 z4) fun (r8 : Int32) =>
  (r8 = 2 →
    (pre_Sc_secondOperandAt M r6 z4) ∧
    cs_bd (f_Sc_secondOperandAt M r6 z4) fun (r14 : Int32) =>
    (pre_Sc_firstOperandAt M r6 z4) ∧
    cs_bd (f_Sc_firstOperandAt M r6 z4) fun (r16 : Int32) =>
    (pre_Ma_staticOf M j r14 r16) ∧
    cs_bd (f_Ma_staticOf M j r14 r16) fun (r18 : Int32) =>
    (vp_in (8 + r2) (cs_ln M (j + 1))) ∧
    cs_bd (cs_up M (j + 1) (upd (M (j + 1)) (8 + r2).toNatClampNeg r18)) fun (N20 : cs_Mem) =>
    (vp_in (24 + r2) (cs_ln N20 (j + 1))) ∧
    (vp_in (24 + r2) (cs_ln N20 (j + 1))) ∧
    True
  ) ∧ (¬ (r8 = 2) →
    (vp_in (24 + r2) (cs_ln M (j + 1))) ∧
    (vp_in (24 + r2) (cs_ln M (j + 1))) ∧
    True
  )
set_option maxHeartbeats 4000000 in
set_option maxRecDepth 100000 in
theorem c_Ma_makeUse (l : Launch) (D : va_G) (cA : Nat → ClassId) (ad : Nat → Nat) (M : cs_Mem) (j : Nat) (hj : cs_is 3 j) (x1 : Int32) (hp : pre_Ma_makeUse M j x1) : cs_Cv l ⟨"ClassStarter$Machine", "makeUse", "(I)V"⟩ prog_4_method_25_code 5 none ({ frames := 2, cells := 0, slots := 0, locals := 43 }) D cA ad M [.ref (ad j), .int x1] (f_Ma_makeUse M j x1) := by
  refine cs_entry (by decide) (Nat.le_of_ble_eq_true rfl) (fun p e s m below meth c A ls hC hr hlk _ hw hl => ?_)
  have hx := hC.1
  have hb := hC.2.1
  have hl : lv_has ls 5 [(0, .ref (ad j)), (1, .int x1)] := hl
  generalize hF : f_Ma_makeUse M j x1 = F
  have hf := hF.symm
  unfold f_Ma_makeUse at hf
  unfold pre_Ma_makeUse at hp
  refine lv_aload_n hx hb d_Ma_makeUse_0 rfl (lv_at hl 0 rfl) ?_
  refine lv_iload_n hx hb d_Ma_makeUse_1 rfl (lv_at hl 1 rfl) ?_
  have o1 := hp.1
  have hp := hp.2
  refine cs_ret_p hC hw (cs_runV (As := [.int x1]) (rest := []) hC hw hj.2 (ci := 3) rfl rfl (cs_sg_is hj) (c_Ma_topFrame l D cA ad M j hj x1 o1 _) rfl rfl cw_Ma_47 ⟨Nat.le_of_ble_eq_true rfl, Nat.le_of_ble_eq_true rfl⟩ hl.1 rfl rfl (Nat.le_of_ble_eq_true rfl) d_Ma_makeUse_2 ⟨Nat.zero_le _, Nat.zero_le _⟩) (fun r2 H locs er2 hw => ?_)
  have hp := cs_bdP er2 hp
  have hf := cs_bdE er2 hf
  refine lv_istore_n (lv' := [(2, .int r2), (0, .ref (ad j)), (1, .int x1)]) hx hb d_Ma_makeUse_5 rfl hl (by decide) rfl (fun ls hl => ?_)
  refine lv_aload_n hx hb d_Ma_makeUse_6 rfl (lv_at hl 1 rfl) ?_
  refine gf_Ma_cells hC hw hj wd_131 d_Ma_makeUse_7 ?_
  refine lv_bipush (v := 24) hx hb d_Ma_makeUse_10 (by decide) ?_
  refine lv_iload_n hx hb d_Ma_makeUse_12 rfl (lv_at hl 0 rfl) ?_
  refine lv_iadd hx hb d_Ma_makeUse_13 ?_
  have o3 := hp.1
  have hp := hp.2
  refine cs_iald hC hw (is_Ma1 hj) o3 d_Ma_makeUse_14 ?_
  refine lv_topi (fun z4 ez4 => ?_)
  have hp := cs_bdP ez4 hp
  have hf := cs_bdE ez4 hf
  refine lv_istore_n (lv' := [(3, .int z4), (2, .int r2), (0, .ref (ad j)), (1, .int x1)]) hx hb d_Ma_makeUse_15 rfl hl (by decide) rfl (fun ls hl => ?_)
  refine lv_aload_n hx hb d_Ma_makeUse_16 rfl (lv_at hl 2 rfl) ?_
  refine gf_Ma_program hC hw hj wd_130 d_Ma_makeUse_17 ?_
  refine lv_iload_n hx hb d_Ma_makeUse_20 rfl (lv_at hl 1 rfl) ?_
  have o5 := hp.1
  have hp := hp.2
  refine cs_ret_rp hC hw (cs_runV (As := [.int r2]) (rest := []) hC hw is_1.2 (ci := 1) rfl rfl (cs_sg_is is_1) (c_Pr_script l D cA ad M 1 is_1 r2 o5 _) rfl rfl cw_Ma_53 ⟨Nat.le_of_ble_eq_true rfl, Nat.le_of_ble_eq_true rfl⟩ hl.1 rfl rfl (Nat.le_of_ble_eq_true rfl) d_Ma_makeUse_21 ⟨Nat.zero_le _, Nat.zero_le _⟩) (fun r6 H locs er6 hw => ?_)
  have hp := cs_bdP er6 hp
  have hf := cs_bdE er6 hf
  refine lv_astore (lv' := [(4, .ref (ad r6)), (3, .int z4), (2, .int r2), (0, .ref (ad j)), (1, .int x1)]) hx hb d_Ma_makeUse_24 hl (by decide) rfl (fun ls hl => ?_)
  refine lv_aload hx hb d_Ma_makeUse_26 (lv_at hl 0 rfl) ?_
  refine lv_iload_n hx hb d_Ma_makeUse_28 rfl (lv_at hl 1 rfl) ?_
  have o7 := hp.1
  have hp := hp.2
  refine cs_ret_p hC hw (cs_runV (As := [.int z4]) (rest := []) hC hw (is_script er6 o5).2 (ci := 2) rfl rfl (cs_sg_is (is_script er6 o5)) (c_Sc_actionAt l D cA ad M r6 (is_script er6 o5) z4 o7 _) rfl rfl cw_Ma_116 ⟨Nat.le_of_ble_eq_true rfl, Nat.le_of_ble_eq_true rfl⟩ hl.1 rfl rfl (Nat.le_of_ble_eq_true rfl) d_Ma_makeUse_29 ⟨Nat.zero_le _, Nat.zero_le _⟩) (fun r8 H locs er8 hw => ?_)
  have hp := cs_bdP er8 hp
  have hf := cs_bdE er8 hf
  refine lv_iconst (v := 2) hx hb d_Ma_makeUse_32 (by decide) ?_
  refine lv_icmp_ne (tgt := 61) hx hb d_Ma_makeUse_33 (by decide) (fun c9 => ?_) (fun c9 => ?_)
  · have hp := hp.2 c9
    have hf := hf.trans (if_neg c9)
    refine lv_aload_n hx hb d_Ma_makeUse_61 rfl (lv_at hl 3 rfl) ?_
    refine gf_Ma_cells hC hw hj wd_131 d_Ma_makeUse_62 ?_
    refine lv_bipush (v := 24) hx hb d_Ma_makeUse_65 (by decide) ?_
    refine lv_iload_n hx hb d_Ma_makeUse_67 rfl (lv_at hl 2 rfl) ?_
    refine lv_iadd hx hb d_Ma_makeUse_68 ?_
    refine lv_dup2_11 hx hb d_Ma_makeUse_69 rfl rfl ?_
    have o10 := hp.1
    have hp := hp.2
    refine cs_iald hC hw (is_Ma1 hj) o10 d_Ma_makeUse_70 ?_
    refine lv_iconst (v := 1) hx hb d_Ma_makeUse_71 (by decide) ?_
    refine lv_iadd hx hb d_Ma_makeUse_72 ?_
    have o11 := hp.1
    have hp := hp.2
    refine cs_iast hC hw (is_Ma1 hj) o11 d_Ma_makeUse_73 (fun N12 H locs eN12 hw => ?_)
    have hf := cs_bdE eN12 hf
    exact cs_vret hC hw hr hlk hf d_Ma_makeUse_74
  · have hp := hp.1 c9
    have hf := hf.trans (if_pos c9)
    refine lv_aload_n hx hb d_Ma_makeUse_36 rfl (lv_at hl 3 rfl) ?_
    refine gf_Ma_cells hC hw hj wd_131 d_Ma_makeUse_37 ?_
    refine lv_bipush (v := 8) hx hb d_Ma_makeUse_40 (by decide) ?_
    refine lv_iload_n hx hb d_Ma_makeUse_42 rfl (lv_at hl 2 rfl) ?_
    refine lv_iadd hx hb d_Ma_makeUse_43 ?_
    refine lv_aload_n hx hb d_Ma_makeUse_44 rfl (lv_at hl 3 rfl) ?_
    refine lv_aload hx hb d_Ma_makeUse_45 (lv_at hl 0 rfl) ?_
    refine lv_iload_n hx hb d_Ma_makeUse_47 rfl (lv_at hl 1 rfl) ?_
    have o13 := hp.1
    have hp := hp.2
    refine cs_ret_p hC hw (cs_runV (As := [.int z4]) (rest := [.ref (ad j), .int (8 + r2), .ref (ad (j + 1))]) hC hw (is_script er6 o5).2 (ci := 2) rfl rfl (cs_sg_is (is_script er6 o5)) (c_Sc_secondOperandAt l D cA ad M r6 (is_script er6 o5) z4 o13 _) rfl rfl cw_Ma_119 ⟨Nat.le_of_ble_eq_true rfl, Nat.le_of_ble_eq_true rfl⟩ hl.1 rfl rfl (Nat.le_of_ble_eq_true rfl) d_Ma_makeUse_48 ⟨Nat.zero_le _, Nat.zero_le _⟩) (fun r14 H locs er14 hw => ?_)
    have hp := cs_bdP er14 hp
    have hf := cs_bdE er14 hf
    refine lv_aload hx hb d_Ma_makeUse_51 (lv_at hl 0 rfl) ?_
    refine lv_iload_n hx hb d_Ma_makeUse_53 rfl (lv_at hl 1 rfl) ?_
    have o15 := hp.1
    have hp := hp.2
    refine cs_ret_p hC hw (cs_runV (As := [.int z4]) (rest := [.int r14, .ref (ad j), .int (8 + r2), .ref (ad (j + 1))]) hC hw (is_script er6 o5).2 (ci := 2) rfl rfl (cs_sg_is (is_script er6 o5)) (c_Sc_firstOperandAt l D cA ad M r6 (is_script er6 o5) z4 o15 _) rfl rfl cw_Ma_122 ⟨Nat.le_of_ble_eq_true rfl, Nat.le_of_ble_eq_true rfl⟩ hl.1 rfl rfl (Nat.le_of_ble_eq_true rfl) d_Ma_makeUse_54 ⟨Nat.zero_le _, Nat.zero_le _⟩) (fun r16 H locs er16 hw => ?_)
    have hp := cs_bdP er16 hp
    have hf := cs_bdE er16 hf
    have o17 := hp.1
    have hp := hp.2
    refine cs_ret_p hC hw (cs_runV (As := [.int r14, .int r16]) (rest := [.int (8 + r2), .ref (ad (j + 1))]) hC hw hj.2 (ci := 3) rfl rfl (cs_sg_is hj) (c_Ma_staticOf l D cA ad M j hj r14 r16 o17 _) rfl rfl cw_Ma_125 ⟨Nat.le_of_ble_eq_true rfl, Nat.le_of_ble_eq_true rfl⟩ hl.1 rfl rfl (Nat.le_of_ble_eq_true rfl) d_Ma_makeUse_57 ⟨Nat.zero_le _, Nat.zero_le _⟩) (fun r18 H locs er18 hw => ?_)
    have hp := cs_bdP er18 hp
    have hf := cs_bdE er18 hf
    have o19 := hp.1
    have hp := hp.2
    refine cs_iast hC hw (is_Ma1 hj) o19 d_Ma_makeUse_60 (fun N20 H locs eN20 hw => ?_)
    have hp := cs_bdP eN20 hp
    have hf := cs_bdE eN20 hf
    refine lv_aload_n hx hb d_Ma_makeUse_61 rfl (lv_at hl 3 rfl) ?_
    refine gf_Ma_cells hC hw hj wd_131 d_Ma_makeUse_62 ?_
    refine lv_bipush (v := 24) hx hb d_Ma_makeUse_65 (by decide) ?_
    refine lv_iload_n hx hb d_Ma_makeUse_67 rfl (lv_at hl 2 rfl) ?_
    refine lv_iadd hx hb d_Ma_makeUse_68 ?_
    refine lv_dup2_11 hx hb d_Ma_makeUse_69 rfl rfl ?_
    have o21 := hp.1
    have hp := hp.2
    refine cs_iald hC hw (is_Ma1 hj) o21 d_Ma_makeUse_70 ?_
    refine lv_iconst (v := 1) hx hb d_Ma_makeUse_71 (by decide) ?_
    refine lv_iadd hx hb d_Ma_makeUse_72 ?_
    have o22 := hp.1
    have hp := hp.2
    refine cs_iast hC hw (is_Ma1 hj) o22 d_Ma_makeUse_73 (fun N23 H locs eN23 hw => ?_)
    have hf := cs_bdE eN23 hf
    exact cs_vret hC hw hr hlk hf d_Ma_makeUse_74
theorem d_Ma_finishTop_0 : decode prog_4_method_21_code 0 = .ok (.aload_n 0, 1) := by decide +kernel
theorem d_Ma_finishTop_1 : decode prog_4_method_21_code 1 = .ok (.iload_n 1, 1) := by decide +kernel
theorem d_Ma_finishTop_2 : decode prog_4_method_21_code 2 = .ok (.iconst 1, 1) := by decide +kernel
theorem d_Ma_finishTop_3 : decode prog_4_method_21_code 3 = .ok (.invokevirtual 98, 3) := by decide +kernel
theorem d_Ma_finishTop_6 : decode prog_4_method_21_code 6 = .ok (.aload_n 0, 1) := by decide +kernel
theorem d_Ma_finishTop_7 : decode prog_4_method_21_code 7 = .ok (.iload_n 1, 1) := by decide +kernel
theorem d_Ma_finishTop_8 : decode prog_4_method_21_code 8 = .ok (.invokevirtual 107, 3) := by decide +kernel
theorem d_Ma_finishTop_11 : decode prog_4_method_21_code 11 = .ok (.return_, 1) := by decide +kernel
def f_Ma_finishTop (M : cs_Mem) (j : Nat) (x1 : Int32) : cs_Mem :=
  cs_bd (f_Ma_dropTop M j x1 1) fun (u2 : cs_Mem) =>
  cs_bd (f_Ma_makeUse u2 j x1) fun (u4 : cs_Mem) =>
  u4
def pre_Ma_finishTop (M : cs_Mem) (j : Nat) (x1 : Int32) : Prop :=
  (pre_Ma_dropTop M j x1 1) ∧
  cs_bd (f_Ma_dropTop M j x1 1) fun (u2 : cs_Mem) =>
  (pre_Ma_makeUse u2 j x1) ∧
  True
set_option maxHeartbeats 4000000 in
set_option maxRecDepth 100000 in
theorem c_Ma_finishTop (l : Launch) (D : va_G) (cA : Nat → ClassId) (ad : Nat → Nat) (M : cs_Mem) (j : Nat) (hj : cs_is 3 j) (x1 : Int32) (hp : pre_Ma_finishTop M j x1) : cs_Cv l ⟨"ClassStarter$Machine", "finishTop", "(I)V"⟩ prog_4_method_21_code 2 none ({ frames := 3, cells := 0, slots := 0, locals := 67 }) D cA ad M [.ref (ad j), .int x1] (f_Ma_finishTop M j x1) := by
  refine cs_entry (by decide) (Nat.le_of_ble_eq_true rfl) (fun p e s m below meth c A ls hC hr hlk _ hw hl => ?_)
  have hx := hC.1
  have hb := hC.2.1
  have hl : lv_has ls 2 [(0, .ref (ad j)), (1, .int x1)] := hl
  generalize hF : f_Ma_finishTop M j x1 = F
  have hf := hF.symm
  unfold f_Ma_finishTop at hf
  unfold pre_Ma_finishTop at hp
  refine lv_aload_n hx hb d_Ma_finishTop_0 rfl (lv_at hl 0 rfl) ?_
  refine lv_iload_n hx hb d_Ma_finishTop_1 rfl (lv_at hl 1 rfl) ?_
  refine lv_iconst (v := 1) hx hb d_Ma_finishTop_2 (by decide) ?_
  have o1 := hp.1
  have hp := hp.2
  refine cs_ret_v hC hw (cs_runV (As := [.int x1, .int 1]) (rest := []) hC hw hj.2 (ci := 3) rfl rfl (cs_sg_is hj) (c_Ma_dropTop l D cA ad M j hj x1 1 o1 _) rfl rfl cw_Ma_98 ⟨Nat.le_of_ble_eq_true rfl, Nat.le_of_ble_eq_true rfl⟩ hl.1 rfl rfl (Nat.le_of_ble_eq_true rfl) d_Ma_finishTop_3 ⟨Nat.zero_le _, Nat.zero_le _⟩) (fun u2 H locs eu2 hw => ?_)
  have hp := cs_bdP eu2 hp
  have hf := cs_bdE eu2 hf
  refine lv_aload_n hx hb d_Ma_finishTop_6 rfl (lv_at hl 0 rfl) ?_
  refine lv_iload_n hx hb d_Ma_finishTop_7 rfl (lv_at hl 1 rfl) ?_
  have o3 := hp.1
  have hp := hp.2
  refine cs_ret_v hC hw (cs_runV (As := [.int x1]) (rest := []) hC hw hj.2 (ci := 3) rfl rfl (cs_sg_is hj) (c_Ma_makeUse l D cA ad u2 j hj x1 o3 _) rfl rfl cw_Ma_107 ⟨Nat.le_of_ble_eq_true rfl, Nat.le_of_ble_eq_true rfl⟩ hl.1 rfl rfl (Nat.le_of_ble_eq_true rfl) d_Ma_finishTop_8 ⟨Nat.zero_le _, Nat.zero_le _⟩) (fun u4 H locs eu4 hw => ?_)
  have hf := cs_bdE eu4 hf
  exact cs_vret hC hw hr hlk hf d_Ma_finishTop_11
theorem d_Ma_begin_0 : decode prog_4_method_24_code 0 = .ok (.aload_n 0, 1) := by decide +kernel
theorem d_Ma_begin_1 : decode prog_4_method_24_code 1 = .ok (.getfield 11, 3) := by decide +kernel
theorem d_Ma_begin_4 : decode prog_4_method_24_code 4 = .ok (.iconst 0, 1) := by decide +kernel
theorem d_Ma_begin_5 : decode prog_4_method_24_code 5 = .ok (.iload_n 2, 1) := by decide +kernel
theorem d_Ma_begin_6 : decode prog_4_method_24_code 6 = .ok (.iadd, 1) := by decide +kernel
theorem d_Ma_begin_7 : decode prog_4_method_24_code 7 = .ok (.iconst 4, 1) := by decide +kernel
theorem d_Ma_begin_8 : decode prog_4_method_24_code 8 = .ok (.iload_n 1, 1) := by decide +kernel
theorem d_Ma_begin_9 : decode prog_4_method_24_code 9 = .ok (.iadd, 1) := by decide +kernel
theorem d_Ma_begin_10 : decode prog_4_method_24_code 10 = .ok (.iastore, 1) := by decide +kernel
theorem d_Ma_begin_11 : decode prog_4_method_24_code 11 = .ok (.aload_n 0, 1) := by decide +kernel
theorem d_Ma_begin_12 : decode prog_4_method_24_code 12 = .ok (.getfield 11, 3) := by decide +kernel
theorem d_Ma_begin_15 : decode prog_4_method_24_code 15 = .ok (.bipush 16, 2) := by decide +kernel
theorem d_Ma_begin_17 : decode prog_4_method_24_code 17 = .ok (.iload_n 2, 1) := by decide +kernel
theorem d_Ma_begin_18 : decode prog_4_method_24_code 18 = .ok (.iadd, 1) := by decide +kernel
theorem d_Ma_begin_19 : decode prog_4_method_24_code 19 = .ok (.aload_n 0, 1) := by decide +kernel
theorem d_Ma_begin_20 : decode prog_4_method_24_code 20 = .ok (.iload_n 1, 1) := by decide +kernel
theorem d_Ma_begin_21 : decode prog_4_method_24_code 21 = .ok (.invokevirtual 47, 3) := by decide +kernel
theorem d_Ma_begin_24 : decode prog_4_method_24_code 24 = .ok (.iastore, 1) := by decide +kernel
theorem d_Ma_begin_25 : decode prog_4_method_24_code 25 = .ok (.aload_n 0, 1) := by decide +kernel
theorem d_Ma_begin_26 : decode prog_4_method_24_code 26 = .ok (.getfield 11, 3) := by decide +kernel
theorem d_Ma_begin_29 : decode prog_4_method_24_code 29 = .ok (.bipush 24, 2) := by decide +kernel
theorem d_Ma_begin_31 : decode prog_4_method_24_code 31 = .ok (.iload_n 2, 1) := by decide +kernel
theorem d_Ma_begin_32 : decode prog_4_method_24_code 32 = .ok (.iadd, 1) := by decide +kernel
theorem d_Ma_begin_33 : decode prog_4_method_24_code 33 = .ok (.iconst 0, 1) := by decide +kernel
theorem d_Ma_begin_34 : decode prog_4_method_24_code 34 = .ok (.iastore, 1) := by decide +kernel
theorem d_Ma_begin_35 : decode prog_4_method_24_code 35 = .ok (.aload_n 0, 1) := by decide +kernel
theorem d_Ma_begin_36 : decode prog_4_method_24_code 36 = .ok (.getfield 11, 3) := by decide +kernel
theorem d_Ma_begin_39 : decode prog_4_method_24_code 39 = .ok (.bipush 35, 2) := by decide +kernel
theorem d_Ma_begin_41 : decode prog_4_method_24_code 41 = .ok (.iload_n 1, 1) := by decide +kernel
theorem d_Ma_begin_42 : decode prog_4_method_24_code 42 = .ok (.iadd, 1) := by decide +kernel
theorem d_Ma_begin_43 : decode prog_4_method_24_code 43 = .ok (.iload_n 2, 1) := by decide +kernel
theorem d_Ma_begin_44 : decode prog_4_method_24_code 44 = .ok (.iastore, 1) := by decide +kernel
theorem d_Ma_begin_45 : decode prog_4_method_24_code 45 = .ok (.return_, 1) := by decide +kernel
def f_Ma_begin (M : cs_Mem) (j : Nat) (x1 : Int32) (x2 : Int32) : cs_Mem :=
  cs_bd (cs_up M (j + 1) (upd (M (j + 1)) (0 + x2).toNatClampNeg (4 + x1))) fun (N2 : cs_Mem) =>
  cs_bd (f_Ma_topFrame N2 j x1) fun (r4 : Int32) =>
  cs_bd (cs_up N2 (j + 1) (upd (N2 (j + 1)) (16 + x2).toNatClampNeg r4)) fun (N6 : cs_Mem) =>
  cs_bd (cs_up N6 (j + 1) (upd (N6 (j + 1)) (24 + x2).toNatClampNeg 0)) fun (N8 : cs_Mem) =>
  cs_bd (cs_up N8 (j + 1) (upd (N8 (j + 1)) (35 + x1).toNatClampNeg x2)) fun (N10 : cs_Mem) =>
  N10
def pre_Ma_begin (M : cs_Mem) (j : Nat) (x1 : Int32) (x2 : Int32) : Prop :=
  (vp_in (0 + x2) (cs_ln M (j + 1))) ∧
  cs_bd (cs_up M (j + 1) (upd (M (j + 1)) (0 + x2).toNatClampNeg (4 + x1))) fun (N2 : cs_Mem) =>
  (pre_Ma_topFrame N2 j x1) ∧
  cs_bd (f_Ma_topFrame N2 j x1) fun (r4 : Int32) =>
  (vp_in (16 + x2) (cs_ln N2 (j + 1))) ∧
  cs_bd (cs_up N2 (j + 1) (upd (N2 (j + 1)) (16 + x2).toNatClampNeg r4)) fun (N6 : cs_Mem) =>
  (vp_in (24 + x2) (cs_ln N6 (j + 1))) ∧
  cs_bd (cs_up N6 (j + 1) (upd (N6 (j + 1)) (24 + x2).toNatClampNeg 0)) fun (N8 : cs_Mem) =>
  (vp_in (35 + x1) (cs_ln N8 (j + 1))) ∧
  True
set_option maxHeartbeats 4000000 in
set_option maxRecDepth 100000 in
theorem c_Ma_begin (l : Launch) (D : va_G) (cA : Nat → ClassId) (ad : Nat → Nat) (M : cs_Mem) (j : Nat) (hj : cs_is 3 j) (x1 : Int32) (x2 : Int32) (hp : pre_Ma_begin M j x1 x2) : cs_Cv l ⟨"ClassStarter$Machine", "begin", "(II)V"⟩ prog_4_method_24_code 3 none ({ frames := 1, cells := 0, slots := 0, locals := 21 }) D cA ad M [.ref (ad j), .int x1, .int x2] (f_Ma_begin M j x1 x2) := by
  refine cs_entry (by decide) (Nat.le_of_ble_eq_true rfl) (fun p e s m below meth c A ls hC hr hlk _ hw hl => ?_)
  have hx := hC.1
  have hb := hC.2.1
  have hl : lv_has ls 3 [(0, .ref (ad j)), (1, .int x1), (2, .int x2)] := hl
  generalize hF : f_Ma_begin M j x1 x2 = F
  have hf := hF.symm
  unfold f_Ma_begin at hf
  unfold pre_Ma_begin at hp
  refine lv_aload_n hx hb d_Ma_begin_0 rfl (lv_at hl 0 rfl) ?_
  refine gf_Ma_cells hC hw hj wd_131 d_Ma_begin_1 ?_
  refine lv_iconst (v := 0) hx hb d_Ma_begin_4 (by decide) ?_
  refine lv_iload_n hx hb d_Ma_begin_5 rfl (lv_at hl 2 rfl) ?_
  refine lv_iadd hx hb d_Ma_begin_6 ?_
  refine lv_iconst (v := 4) hx hb d_Ma_begin_7 (by decide) ?_
  refine lv_iload_n hx hb d_Ma_begin_8 rfl (lv_at hl 1 rfl) ?_
  refine lv_iadd hx hb d_Ma_begin_9 ?_
  have o1 := hp.1
  have hp := hp.2
  refine cs_iast hC hw (is_Ma1 hj) o1 d_Ma_begin_10 (fun N2 H locs eN2 hw => ?_)
  have hp := cs_bdP eN2 hp
  have hf := cs_bdE eN2 hf
  refine lv_aload_n hx hb d_Ma_begin_11 rfl (lv_at hl 0 rfl) ?_
  refine gf_Ma_cells hC hw hj wd_131 d_Ma_begin_12 ?_
  refine lv_bipush (v := 16) hx hb d_Ma_begin_15 (by decide) ?_
  refine lv_iload_n hx hb d_Ma_begin_17 rfl (lv_at hl 2 rfl) ?_
  refine lv_iadd hx hb d_Ma_begin_18 ?_
  refine lv_aload_n hx hb d_Ma_begin_19 rfl (lv_at hl 0 rfl) ?_
  refine lv_iload_n hx hb d_Ma_begin_20 rfl (lv_at hl 1 rfl) ?_
  have o3 := hp.1
  have hp := hp.2
  refine cs_ret_p hC hw (cs_runV (As := [.int x1]) (rest := [.int (16 + x2), .ref (ad (j + 1))]) hC hw hj.2 (ci := 3) rfl rfl (cs_sg_is hj) (c_Ma_topFrame l D cA ad N2 j hj x1 o3 _) rfl rfl cw_Ma_47 ⟨Nat.le_of_ble_eq_true rfl, Nat.le_of_ble_eq_true rfl⟩ hl.1 rfl rfl (Nat.le_of_ble_eq_true rfl) d_Ma_begin_21 ⟨Nat.zero_le _, Nat.zero_le _⟩) (fun r4 H locs er4 hw => ?_)
  have hp := cs_bdP er4 hp
  have hf := cs_bdE er4 hf
  have o5 := hp.1
  have hp := hp.2
  refine cs_iast hC hw (is_Ma1 hj) o5 d_Ma_begin_24 (fun N6 H locs eN6 hw => ?_)
  have hp := cs_bdP eN6 hp
  have hf := cs_bdE eN6 hf
  refine lv_aload_n hx hb d_Ma_begin_25 rfl (lv_at hl 0 rfl) ?_
  refine gf_Ma_cells hC hw hj wd_131 d_Ma_begin_26 ?_
  refine lv_bipush (v := 24) hx hb d_Ma_begin_29 (by decide) ?_
  refine lv_iload_n hx hb d_Ma_begin_31 rfl (lv_at hl 2 rfl) ?_
  refine lv_iadd hx hb d_Ma_begin_32 ?_
  refine lv_iconst (v := 0) hx hb d_Ma_begin_33 (by decide) ?_
  have o7 := hp.1
  have hp := hp.2
  refine cs_iast hC hw (is_Ma1 hj) o7 d_Ma_begin_34 (fun N8 H locs eN8 hw => ?_)
  have hp := cs_bdP eN8 hp
  have hf := cs_bdE eN8 hf
  refine lv_aload_n hx hb d_Ma_begin_35 rfl (lv_at hl 0 rfl) ?_
  refine gf_Ma_cells hC hw hj wd_131 d_Ma_begin_36 ?_
  refine lv_bipush (v := 35) hx hb d_Ma_begin_39 (by decide) ?_
  refine lv_iload_n hx hb d_Ma_begin_41 rfl (lv_at hl 1 rfl) ?_
  refine lv_iadd hx hb d_Ma_begin_42 ?_
  refine lv_iload_n hx hb d_Ma_begin_43 rfl (lv_at hl 2 rfl) ?_
  have o9 := hp.1
  have hp := hp.2
  refine cs_iast hC hw (is_Ma1 hj) o9 d_Ma_begin_44 (fun N10 H locs eN10 hw => ?_)
  have hf := cs_bdE eN10 hf
  exact cs_vret hC hw hr hlk hf d_Ma_begin_45
theorem d_Ma_use_0 : decode prog_4_method_23_code 0 = .ok (.aload_n 0, 1) := by decide +kernel
theorem d_Ma_use_1 : decode prog_4_method_23_code 1 = .ok (.getfield 18, 3) := by decide +kernel
theorem d_Ma_use_4 : decode prog_4_method_23_code 4 = .ok (.iload_n 2, 1) := by decide +kernel
theorem d_Ma_use_5 : decode prog_4_method_23_code 5 = .ok (.invokevirtual 110, 3) := by decide +kernel
theorem d_Ma_use_8 : decode prog_4_method_23_code 8 = .ok (.ifCond .ne 13, 3) := by decide +kernel
theorem d_Ma_use_11 : decode prog_4_method_23_code 11 = .ok (.aload_n 0, 1) := by decide +kernel
theorem d_Ma_use_12 : decode prog_4_method_23_code 12 = .ok (.iload_n 1, 1) := by decide +kernel
theorem d_Ma_use_13 : decode prog_4_method_23_code 13 = .ok (.bipush 21, 2) := by decide +kernel
theorem d_Ma_use_15 : decode prog_4_method_23_code 15 = .ok (.invokevirtual 104, 3) := by decide +kernel
theorem d_Ma_use_18 : decode prog_4_method_23_code 18 = .ok (.goto 44, 3) := by decide +kernel
theorem d_Ma_use_21 : decode prog_4_method_23_code 21 = .ok (.aload_n 0, 1) := by decide +kernel
theorem d_Ma_use_22 : decode prog_4_method_23_code 22 = .ok (.iload_n 2, 1) := by decide +kernel
theorem d_Ma_use_23 : decode prog_4_method_23_code 23 = .ok (.invokevirtual 67, 3) := by decide +kernel
theorem d_Ma_use_26 : decode prog_4_method_23_code 26 = .ok (.ifCond .ne 12, 3) := by decide +kernel
theorem d_Ma_use_29 : decode prog_4_method_23_code 29 = .ok (.aload_n 0, 1) := by decide +kernel
theorem d_Ma_use_30 : decode prog_4_method_23_code 30 = .ok (.iload_n 1, 1) := by decide +kernel
theorem d_Ma_use_31 : decode prog_4_method_23_code 31 = .ok (.iload_n 2, 1) := by decide +kernel
theorem d_Ma_use_32 : decode prog_4_method_23_code 32 = .ok (.invokevirtual 113, 3) := by decide +kernel
theorem d_Ma_use_35 : decode prog_4_method_23_code 35 = .ok (.goto 27, 3) := by decide +kernel
theorem d_Ma_use_38 : decode prog_4_method_23_code 38 = .ok (.aload_n 0, 1) := by decide +kernel
theorem d_Ma_use_39 : decode prog_4_method_23_code 39 = .ok (.iload_n 2, 1) := by decide +kernel
theorem d_Ma_use_40 : decode prog_4_method_23_code 40 = .ok (.invokevirtual 67, 3) := by decide +kernel
theorem d_Ma_use_43 : decode prog_4_method_23_code 43 = .ok (.iconst 2, 1) := by decide +kernel
theorem d_Ma_use_44 : decode prog_4_method_23_code 44 = .ok (.if_icmp .ne 13, 3) := by decide +kernel
theorem d_Ma_use_47 : decode prog_4_method_23_code 47 = .ok (.aload_n 0, 1) := by decide +kernel
theorem d_Ma_use_48 : decode prog_4_method_23_code 48 = .ok (.iload_n 1, 1) := by decide +kernel
theorem d_Ma_use_49 : decode prog_4_method_23_code 49 = .ok (.bipush 22, 2) := by decide +kernel
theorem d_Ma_use_51 : decode prog_4_method_23_code 51 = .ok (.invokevirtual 104, 3) := by decide +kernel
theorem d_Ma_use_54 : decode prog_4_method_23_code 54 = .ok (.goto 8, 3) := by decide +kernel
theorem d_Ma_use_57 : decode prog_4_method_23_code 57 = .ok (.aload_n 0, 1) := by decide +kernel
theorem d_Ma_use_58 : decode prog_4_method_23_code 58 = .ok (.iload_n 1, 1) := by decide +kernel
theorem d_Ma_use_59 : decode prog_4_method_23_code 59 = .ok (.invokevirtual 107, 3) := by decide +kernel
theorem d_Ma_use_62 : decode prog_4_method_23_code 62 = .ok (.return_, 1) := by decide +kernel
def f_Ma_use (M : cs_Mem) (j : Nat) (x1 : Int32) (x2 : Int32) : cs_Mem :=
  cs_bd (f_Pr_isDeclared M 1 x2) fun (r1 : Int32) =>
  if r1 = 0 then
    cs_bd (f_Ma_come M j x1 21) fun (u16 : cs_Mem) =>
    u16
  else
    cs_bd (f_Ma_stateOf M j x2) fun (r4 : Int32) =>
    if r4 = 0 then
      cs_bd (f_Ma_begin M j x1 x2) fun (u14 : cs_Mem) =>
      u14
    else
      cs_bd (f_Ma_stateOf M j x2) fun (r7 : Int32) =>
      if r7 = 2 then
        cs_bd (f_Ma_come M j x1 22) fun (u12 : cs_Mem) =>
        u12
      else
        cs_bd (f_Ma_makeUse M j x1) fun (u10 : cs_Mem) =>
        u10
def pre_Ma_use (M : cs_Mem) (j : Nat) (x1 : Int32) (x2 : Int32) : Prop :=
  cs_bd (f_Pr_isDeclared M 1 x2) fun (r1 : Int32) =>
  (r1 = 0 →
    (pre_Ma_come M j x1 21) ∧
    True
  ) ∧ (¬ (r1 = 0) →
    (pre_Ma_stateOf M j x2) ∧
    cs_bd (f_Ma_stateOf M j x2) fun (r4 : Int32) =>
    (r4 = 0 →
      (pre_Ma_begin M j x1 x2) ∧
      True
    ) ∧ (¬ (r4 = 0) →
      (pre_Ma_stateOf M j x2) ∧
      cs_bd (f_Ma_stateOf M j x2) fun (r7 : Int32) =>
      (r7 = 2 →
        (pre_Ma_come M j x1 22) ∧
        True
      ) ∧ (¬ (r7 = 2) →
        (pre_Ma_makeUse M j x1) ∧
        True
      )
    )
  )
set_option maxHeartbeats 4000000 in
set_option maxRecDepth 100000 in
theorem c_Ma_use (l : Launch) (D : va_G) (cA : Nat → ClassId) (ad : Nat → Nat) (M : cs_Mem) (j : Nat) (hj : cs_is 3 j) (x1 : Int32) (x2 : Int32) (hp : pre_Ma_use M j x1 x2) : cs_Cv l ⟨"ClassStarter$Machine", "use", "(II)V"⟩ prog_4_method_23_code 3 none ({ frames := 3, cells := 0, slots := 0, locals := 67 }) D cA ad M [.ref (ad j), .int x1, .int x2] (f_Ma_use M j x1 x2) := by
  refine cs_entry (by decide) (Nat.le_of_ble_eq_true rfl) (fun p e s m below meth c A ls hC hr hlk _ hw hl => ?_)
  have hx := hC.1
  have hb := hC.2.1
  have hl : lv_has ls 3 [(0, .ref (ad j)), (1, .int x1), (2, .int x2)] := hl
  generalize hF : f_Ma_use M j x1 x2 = F
  have hf := hF.symm
  unfold f_Ma_use at hf
  unfold pre_Ma_use at hp
  refine lv_aload_n hx hb d_Ma_use_0 rfl (lv_at hl 0 rfl) ?_
  refine gf_Ma_program hC hw hj wd_130 d_Ma_use_1 ?_
  refine lv_iload_n hx hb d_Ma_use_4 rfl (lv_at hl 2 rfl) ?_
  refine cs_ret_p hC hw (cs_runV (As := [.int x2]) (rest := []) hC hw is_1.2 (ci := 1) rfl rfl (cs_sg_is is_1) (c_Pr_isDeclared l D cA ad M 1 is_1 x2 _) rfl rfl cw_Ma_110 ⟨Nat.le_of_ble_eq_true rfl, Nat.le_of_ble_eq_true rfl⟩ hl.1 rfl rfl (Nat.le_of_ble_eq_true rfl) d_Ma_use_5 ⟨Nat.zero_le _, Nat.zero_le _⟩) (fun r1 H locs er1 hw => ?_)
  have hp := cs_bdP er1 hp
  have hf := cs_bdE er1 hf
  refine lv_if_ne (tgt := 21) hx hb d_Ma_use_8 (by decide) (fun c2 => ?_) (fun c2 => ?_)
  · have hp := hp.2 c2
    have hf := hf.trans (if_neg c2)
    refine lv_aload_n hx hb d_Ma_use_21 rfl (lv_at hl 0 rfl) ?_
    refine lv_iload_n hx hb d_Ma_use_22 rfl (lv_at hl 2 rfl) ?_
    have o3 := hp.1
    have hp := hp.2
    refine cs_ret_p hC hw (cs_runV (As := [.int x2]) (rest := []) hC hw hj.2 (ci := 3) rfl rfl (cs_sg_is hj) (c_Ma_stateOf l D cA ad M j hj x2 o3 _) rfl rfl cw_Ma_67 ⟨Nat.le_of_ble_eq_true rfl, Nat.le_of_ble_eq_true rfl⟩ hl.1 rfl rfl (Nat.le_of_ble_eq_true rfl) d_Ma_use_23 ⟨Nat.zero_le _, Nat.zero_le _⟩) (fun r4 H locs er4 hw => ?_)
    have hp := cs_bdP er4 hp
    have hf := cs_bdE er4 hf
    refine lv_if_ne (tgt := 38) hx hb d_Ma_use_26 (by decide) (fun c5 => ?_) (fun c5 => ?_)
    · have hp := hp.2 c5
      have hf := hf.trans (if_neg c5)
      refine lv_aload_n hx hb d_Ma_use_38 rfl (lv_at hl 0 rfl) ?_
      refine lv_iload_n hx hb d_Ma_use_39 rfl (lv_at hl 2 rfl) ?_
      have o6 := hp.1
      have hp := hp.2
      refine cs_ret_p hC hw (cs_runV (As := [.int x2]) (rest := []) hC hw hj.2 (ci := 3) rfl rfl (cs_sg_is hj) (c_Ma_stateOf l D cA ad M j hj x2 o6 _) rfl rfl cw_Ma_67 ⟨Nat.le_of_ble_eq_true rfl, Nat.le_of_ble_eq_true rfl⟩ hl.1 rfl rfl (Nat.le_of_ble_eq_true rfl) d_Ma_use_40 ⟨Nat.zero_le _, Nat.zero_le _⟩) (fun r7 H locs er7 hw => ?_)
      have hp := cs_bdP er7 hp
      have hf := cs_bdE er7 hf
      refine lv_iconst (v := 2) hx hb d_Ma_use_43 (by decide) ?_
      refine lv_icmp_ne (tgt := 57) hx hb d_Ma_use_44 (by decide) (fun c8 => ?_) (fun c8 => ?_)
      · have hp := hp.2 c8
        have hf := hf.trans (if_neg c8)
        refine lv_aload_n hx hb d_Ma_use_57 rfl (lv_at hl 0 rfl) ?_
        refine lv_iload_n hx hb d_Ma_use_58 rfl (lv_at hl 1 rfl) ?_
        have o9 := hp.1
        have hp := hp.2
        refine cs_ret_v hC hw (cs_runV (As := [.int x1]) (rest := []) hC hw hj.2 (ci := 3) rfl rfl (cs_sg_is hj) (c_Ma_makeUse l D cA ad M j hj x1 o9 _) rfl rfl cw_Ma_107 ⟨Nat.le_of_ble_eq_true rfl, Nat.le_of_ble_eq_true rfl⟩ hl.1 rfl rfl (Nat.le_of_ble_eq_true rfl) d_Ma_use_59 ⟨Nat.zero_le _, Nat.zero_le _⟩) (fun u10 H locs eu10 hw => ?_)
        have hf := cs_bdE eu10 hf
        exact cs_vret hC hw hr hlk hf d_Ma_use_62
      · have hp := hp.1 c8
        have hf := hf.trans (if_pos c8)
        refine lv_aload_n hx hb d_Ma_use_47 rfl (lv_at hl 0 rfl) ?_
        refine lv_iload_n hx hb d_Ma_use_48 rfl (lv_at hl 1 rfl) ?_
        refine lv_bipush (v := 22) hx hb d_Ma_use_49 (by decide) ?_
        have o11 := hp.1
        have hp := hp.2
        refine cs_ret_v hC hw (cs_runV (As := [.int x1, .int 22]) (rest := []) hC hw hj.2 (ci := 3) rfl rfl (cs_sg_is hj) (c_Ma_come l D cA ad M j hj x1 22 o11 _) rfl rfl cw_Ma_104 ⟨Nat.le_of_ble_eq_true rfl, Nat.le_of_ble_eq_true rfl⟩ hl.1 rfl rfl (Nat.le_of_ble_eq_true rfl) d_Ma_use_51 ⟨Nat.zero_le _, Nat.zero_le _⟩) (fun u12 H locs eu12 hw => ?_)
        have hf := cs_bdE eu12 hf
        refine lv_goto (tgt := 62) hx hb d_Ma_use_54 (by decide) ?_
        exact cs_vret hC hw hr hlk hf d_Ma_use_62
    · have hp := hp.1 c5
      have hf := hf.trans (if_pos c5)
      refine lv_aload_n hx hb d_Ma_use_29 rfl (lv_at hl 0 rfl) ?_
      refine lv_iload_n hx hb d_Ma_use_30 rfl (lv_at hl 1 rfl) ?_
      refine lv_iload_n hx hb d_Ma_use_31 rfl (lv_at hl 2 rfl) ?_
      have o13 := hp.1
      have hp := hp.2
      refine cs_ret_v hC hw (cs_runV (As := [.int x1, .int x2]) (rest := []) hC hw hj.2 (ci := 3) rfl rfl (cs_sg_is hj) (c_Ma_begin l D cA ad M j hj x1 x2 o13 _) rfl rfl cw_Ma_113 ⟨Nat.le_of_ble_eq_true rfl, Nat.le_of_ble_eq_true rfl⟩ hl.1 rfl rfl (Nat.le_of_ble_eq_true rfl) d_Ma_use_32 ⟨Nat.zero_le _, Nat.zero_le _⟩) (fun u14 H locs eu14 hw => ?_)
      have hf := cs_bdE eu14 hf
      refine lv_goto (tgt := 62) hx hb d_Ma_use_35 (by decide) ?_
      exact cs_vret hC hw hr hlk hf d_Ma_use_62
  · have hp := hp.1 c2
    have hf := hf.trans (if_pos c2)
    refine lv_aload_n hx hb d_Ma_use_11 rfl (lv_at hl 0 rfl) ?_
    refine lv_iload_n hx hb d_Ma_use_12 rfl (lv_at hl 1 rfl) ?_
    refine lv_bipush (v := 21) hx hb d_Ma_use_13 (by decide) ?_
    have o15 := hp.1
    have hp := hp.2
    refine cs_ret_v hC hw (cs_runV (As := [.int x1, .int 21]) (rest := []) hC hw hj.2 (ci := 3) rfl rfl (cs_sg_is hj) (c_Ma_come l D cA ad M j hj x1 21 o15 _) rfl rfl cw_Ma_104 ⟨Nat.le_of_ble_eq_true rfl, Nat.le_of_ble_eq_true rfl⟩ hl.1 rfl rfl (Nat.le_of_ble_eq_true rfl) d_Ma_use_15 ⟨Nat.zero_le _, Nat.zero_le _⟩) (fun u16 H locs eu16 hw => ?_)
    have hf := cs_bdE eu16 hf
    refine lv_goto (tgt := 62) hx hb d_Ma_use_18 (by decide) ?_
    exact cs_vret hC hw hr hlk hf d_Ma_use_62
theorem d_Ma_perform_0 : decode prog_4_method_26_code 0 = .ok (.aload_n 0, 1) := by decide +kernel
theorem d_Ma_perform_1 : decode prog_4_method_26_code 1 = .ok (.iload_n 1, 1) := by decide +kernel
theorem d_Ma_perform_2 : decode prog_4_method_26_code 2 = .ok (.invokevirtual 47, 3) := by decide +kernel
theorem d_Ma_perform_5 : decode prog_4_method_26_code 5 = .ok (.istore_n 2, 1) := by decide +kernel
theorem d_Ma_perform_6 : decode prog_4_method_26_code 6 = .ok (.aload_n 0, 1) := by decide +kernel
theorem d_Ma_perform_7 : decode prog_4_method_26_code 7 = .ok (.getfield 11, 3) := by decide +kernel
theorem d_Ma_perform_10 : decode prog_4_method_26_code 10 = .ok (.bipush 24, 2) := by decide +kernel
theorem d_Ma_perform_12 : decode prog_4_method_26_code 12 = .ok (.iload_n 2, 1) := by decide +kernel
theorem d_Ma_perform_13 : decode prog_4_method_26_code 13 = .ok (.iadd, 1) := by decide +kernel
theorem d_Ma_perform_14 : decode prog_4_method_26_code 14 = .ok (.iaload, 1) := by decide +kernel
theorem d_Ma_perform_15 : decode prog_4_method_26_code 15 = .ok (.istore_n 3, 1) := by decide +kernel
theorem d_Ma_perform_16 : decode prog_4_method_26_code 16 = .ok (.aload_n 0, 1) := by decide +kernel
theorem d_Ma_perform_17 : decode prog_4_method_26_code 17 = .ok (.getfield 18, 3) := by decide +kernel
theorem d_Ma_perform_20 : decode prog_4_method_26_code 20 = .ok (.iload_n 2, 1) := by decide +kernel
theorem d_Ma_perform_21 : decode prog_4_method_26_code 21 = .ok (.invokevirtual 53, 3) := by decide +kernel
theorem d_Ma_perform_24 : decode prog_4_method_26_code 24 = .ok (.astore 4, 2) := by decide +kernel
theorem d_Ma_perform_26 : decode prog_4_method_26_code 26 = .ok (.aload 4, 2) := by decide +kernel
theorem d_Ma_perform_28 : decode prog_4_method_26_code 28 = .ok (.iload_n 3, 1) := by decide +kernel
theorem d_Ma_perform_29 : decode prog_4_method_26_code 29 = .ok (.invokevirtual 116, 3) := by decide +kernel
theorem d_Ma_perform_32 : decode prog_4_method_26_code 32 = .ok (.tableswitch 102 1 5 #[65, 83, 36, 50, 89], 36) := by decide +kernel
theorem d_Ma_perform_68 : decode prog_4_method_26_code 68 = .ok (.aload_n 0, 1) := by decide +kernel
theorem d_Ma_perform_69 : decode prog_4_method_26_code 69 = .ok (.iload_n 1, 1) := by decide +kernel
theorem d_Ma_perform_70 : decode prog_4_method_26_code 70 = .ok (.iconst 1, 1) := by decide +kernel
theorem d_Ma_perform_71 : decode prog_4_method_26_code 71 = .ok (.aload 4, 2) := by decide +kernel
theorem d_Ma_perform_73 : decode prog_4_method_26_code 73 = .ok (.iload_n 3, 1) := by decide +kernel
theorem d_Ma_perform_74 : decode prog_4_method_26_code 74 = .ok (.invokevirtual 122, 3) := by decide +kernel
theorem d_Ma_perform_77 : decode prog_4_method_26_code 77 = .ok (.iadd, 1) := by decide +kernel
theorem d_Ma_perform_78 : decode prog_4_method_26_code 78 = .ok (.invokevirtual 104, 3) := by decide +kernel
theorem d_Ma_perform_81 : decode prog_4_method_26_code 81 = .ok (.return_, 1) := by decide +kernel
theorem d_Ma_perform_82 : decode prog_4_method_26_code 82 = .ok (.aload_n 0, 1) := by decide +kernel
theorem d_Ma_perform_83 : decode prog_4_method_26_code 83 = .ok (.iload_n 1, 1) := by decide +kernel
theorem d_Ma_perform_84 : decode prog_4_method_26_code 84 = .ok (.bipush 11, 2) := by decide +kernel
theorem d_Ma_perform_86 : decode prog_4_method_26_code 86 = .ok (.aload 4, 2) := by decide +kernel
theorem d_Ma_perform_88 : decode prog_4_method_26_code 88 = .ok (.iload_n 3, 1) := by decide +kernel
theorem d_Ma_perform_89 : decode prog_4_method_26_code 89 = .ok (.invokevirtual 122, 3) := by decide +kernel
theorem d_Ma_perform_92 : decode prog_4_method_26_code 92 = .ok (.iadd, 1) := by decide +kernel
theorem d_Ma_perform_93 : decode prog_4_method_26_code 93 = .ok (.invokevirtual 104, 3) := by decide +kernel
theorem d_Ma_perform_96 : decode prog_4_method_26_code 96 = .ok (.return_, 1) := by decide +kernel
theorem d_Ma_perform_97 : decode prog_4_method_26_code 97 = .ok (.aload_n 0, 1) := by decide +kernel
theorem d_Ma_perform_98 : decode prog_4_method_26_code 98 = .ok (.getfield 11, 3) := by decide +kernel
theorem d_Ma_perform_101 : decode prog_4_method_26_code 101 = .ok (.bipush 8, 2) := by decide +kernel
theorem d_Ma_perform_103 : decode prog_4_method_26_code 103 = .ok (.iload_n 2, 1) := by decide +kernel
theorem d_Ma_perform_104 : decode prog_4_method_26_code 104 = .ok (.iadd, 1) := by decide +kernel
theorem d_Ma_perform_105 : decode prog_4_method_26_code 105 = .ok (.aload 4, 2) := by decide +kernel
theorem d_Ma_perform_107 : decode prog_4_method_26_code 107 = .ok (.iload_n 3, 1) := by decide +kernel
theorem d_Ma_perform_108 : decode prog_4_method_26_code 108 = .ok (.invokevirtual 119, 3) := by decide +kernel
theorem d_Ma_perform_111 : decode prog_4_method_26_code 111 = .ok (.iastore, 1) := by decide +kernel
theorem d_Ma_perform_112 : decode prog_4_method_26_code 112 = .ok (.goto 22, 3) := by decide +kernel
theorem d_Ma_perform_115 : decode prog_4_method_26_code 115 = .ok (.aload_n 0, 1) := by decide +kernel
theorem d_Ma_perform_116 : decode prog_4_method_26_code 116 = .ok (.iload_n 1, 1) := by decide +kernel
theorem d_Ma_perform_117 : decode prog_4_method_26_code 117 = .ok (.invokevirtual 107, 3) := by decide +kernel
theorem d_Ma_perform_120 : decode prog_4_method_26_code 120 = .ok (.return_, 1) := by decide +kernel
theorem d_Ma_perform_121 : decode prog_4_method_26_code 121 = .ok (.aload_n 0, 1) := by decide +kernel
theorem d_Ma_perform_122 : decode prog_4_method_26_code 122 = .ok (.aload 4, 2) := by decide +kernel
theorem d_Ma_perform_124 : decode prog_4_method_26_code 124 = .ok (.iload_n 3, 1) := by decide +kernel
theorem d_Ma_perform_125 : decode prog_4_method_26_code 125 = .ok (.invokevirtual 122, 3) := by decide +kernel
theorem d_Ma_perform_128 : decode prog_4_method_26_code 128 = .ok (.invokevirtual 128, 3) := by decide +kernel
theorem d_Ma_perform_131 : decode prog_4_method_26_code 131 = .ok (.goto 3, 3) := by decide +kernel
theorem d_Ma_perform_134 : decode prog_4_method_26_code 134 = .ok (.aload_n 0, 1) := by decide +kernel
theorem d_Ma_perform_135 : decode prog_4_method_26_code 135 = .ok (.getfield 11, 3) := by decide +kernel
theorem d_Ma_perform_138 : decode prog_4_method_26_code 138 = .ok (.bipush 24, 2) := by decide +kernel
theorem d_Ma_perform_140 : decode prog_4_method_26_code 140 = .ok (.iload_n 2, 1) := by decide +kernel
theorem d_Ma_perform_141 : decode prog_4_method_26_code 141 = .ok (.iadd, 1) := by decide +kernel
theorem d_Ma_perform_142 : decode prog_4_method_26_code 142 = .ok (.dup2, 1) := by decide +kernel
theorem d_Ma_perform_143 : decode prog_4_method_26_code 143 = .ok (.iaload, 1) := by decide +kernel
theorem d_Ma_perform_144 : decode prog_4_method_26_code 144 = .ok (.iconst 1, 1) := by decide +kernel
theorem d_Ma_perform_145 : decode prog_4_method_26_code 145 = .ok (.iadd, 1) := by decide +kernel
theorem d_Ma_perform_146 : decode prog_4_method_26_code 146 = .ok (.iastore, 1) := by decide +kernel
theorem d_Ma_perform_147 : decode prog_4_method_26_code 147 = .ok (.return_, 1) := by decide +kernel
def f_Ma_perform (M : cs_Mem) (j : Nat) (x1 : Int32) : cs_Mem :=
  cs_bd (f_Ma_topFrame M j x1) fun (r2 : Int32) =>
  cs_bd (M (j + 1) (24 + r2).toNatClampNeg) fun (z4 : Int32) =>
  cs_bd (f_Pr_script M 1 r2) fun (r6 : Nat) =>
  cs_bd (f_Sc_actionAt M r6 z4) fun (r8 : Int32) =>
  if r8 = 1 then
    cs_bd (f_Sc_secondOperandAt M r6 z4) fun (r11 : Int32) =>
    cs_bd (cs_up M (j + 1) (upd (M (j + 1)) (8 + r2).toNatClampNeg r11)) fun (N13 : cs_Mem) =>
    cs_bd (cs_up N13 (j + 1) (upd (N13 (j + 1)) (24 + r2).toNatClampNeg ((N13 (j + 1) (24 + r2).toNatClampNeg) + 1))) fun (N16 : cs_Mem) =>
    N16
  else
    if r8 = 2 then
      cs_bd (f_Ma_makeUse M j x1) fun (u19 : cs_Mem) =>
      u19
    else
      if r8 = 3 then
        cs_bd (f_Sc_firstOperandAt M r6 z4) fun (r22 : Int32) =>
        cs_bd (f_Ma_come M j x1 (1 + r22)) fun (u24 : cs_Mem) =>
        u24
      else
        if r8 = 4 then
          cs_bd (f_Sc_firstOperandAt M r6 z4) fun (r27 : Int32) =>
          cs_bd (f_Ma_come M j x1 (11 + r27)) fun (u29 : cs_Mem) =>
          u29
        else
          if r8 = 5 then
            cs_bd (f_Sc_firstOperandAt M r6 z4) fun (r32 : Int32) =>
            cs_bd (f_Ma_write M j r32) fun (u34 : cs_Mem) =>
            cs_bd (cs_up u34 (j + 1) (upd (u34 (j + 1)) (24 + r2).toNatClampNeg ((u34 (j + 1) (24 + r2).toNatClampNeg) + 1))) fun (N37 : cs_Mem) =>
            N37
          else
            cs_bd (cs_up M (j + 1) (upd (M (j + 1)) (24 + r2).toNatClampNeg ((M (j + 1) (24 + r2).toNatClampNeg) + 1))) fun (N40 : cs_Mem) =>
            N40
def pre_Ma_perform (M : cs_Mem) (j : Nat) (x1 : Int32) : Prop :=
  (pre_Ma_topFrame M j x1) ∧
  cs_bd (f_Ma_topFrame M j x1) fun (r2 : Int32) =>
  (vp_in (24 + r2) (cs_ln M (j + 1))) ∧
  cs_bd (M (j + 1) (24 + r2).toNatClampNeg) fun (z4 : Int32) =>
  (pre_Pr_script M 1 r2) ∧
  cs_bd (f_Pr_script M 1 r2) fun (r6 : Nat) =>
  (pre_Sc_actionAt M r6 z4) ∧
  cs_bd (f_Sc_actionAt M r6 z4) fun (r8 : Int32) =>
  (r8 = 1 →
    (pre_Sc_secondOperandAt M r6 z4) ∧
    cs_bd (f_Sc_secondOperandAt M r6 z4) fun (r11 : Int32) =>
    (vp_in (8 + r2) (cs_ln M (j + 1))) ∧
    cs_bd (cs_up M (j + 1) (upd (M (j + 1)) (8 + r2).toNatClampNeg r11)) fun (N13 : cs_Mem) =>
    (vp_in (24 + r2) (cs_ln N13 (j + 1))) ∧
    (vp_in (24 + r2) (cs_ln N13 (j + 1))) ∧
    True
  ) ∧ (¬ (r8 = 1) →
    (r8 = 2 →
      (pre_Ma_makeUse M j x1) ∧
      True
    ) ∧ (¬ (r8 = 2) →
      (r8 = 3 →
        (pre_Sc_firstOperandAt M r6 z4) ∧
        cs_bd (f_Sc_firstOperandAt M r6 z4) fun (r22 : Int32) =>
        (pre_Ma_come M j x1 (1 + r22)) ∧
        True
      ) ∧ (¬ (r8 = 3) →
        (r8 = 4 →
          (pre_Sc_firstOperandAt M r6 z4) ∧
          cs_bd (f_Sc_firstOperandAt M r6 z4) fun (r27 : Int32) =>
          (pre_Ma_come M j x1 (11 + r27)) ∧
          True
        ) ∧ (¬ (r8 = 4) →
          (r8 = 5 →
            (pre_Sc_firstOperandAt M r6 z4) ∧
            cs_bd (f_Sc_firstOperandAt M r6 z4) fun (r32 : Int32) =>
            (pre_Ma_write M j r32) ∧
            cs_bd (f_Ma_write M j r32) fun (u34 : cs_Mem) =>
            (vp_in (24 + r2) (cs_ln u34 (j + 1))) ∧
            (vp_in (24 + r2) (cs_ln u34 (j + 1))) ∧
            True
          ) ∧ (¬ (r8 = 5) →
            (vp_in (24 + r2) (cs_ln M (j + 1))) ∧
            (vp_in (24 + r2) (cs_ln M (j + 1))) ∧
            True
          )
        )
      )
    )
  )
set_option maxHeartbeats 4000000 in
set_option maxRecDepth 100000 in
theorem c_Ma_perform (l : Launch) (D : va_G) (cA : Nat → ClassId) (ad : Nat → Nat) (M : cs_Mem) (j : Nat) (hj : cs_is 3 j) (x1 : Int32) (hp : pre_Ma_perform M j x1) : cs_Cv l ⟨"ClassStarter$Machine", "perform", "(I)V"⟩ prog_4_method_26_code 5 none ({ frames := 3, cells := 0, slots := 0, locals := 67 }) D cA ad M [.ref (ad j), .int x1] (f_Ma_perform M j x1) := by
  refine cs_entry (by decide) (Nat.le_of_ble_eq_true rfl) (fun p e s m below meth c A ls hC hr hlk _ hw hl => ?_)
  have hx := hC.1
  have hb := hC.2.1
  have hl : lv_has ls 5 [(0, .ref (ad j)), (1, .int x1)] := hl
  generalize hF : f_Ma_perform M j x1 = F
  have hf := hF.symm
  unfold f_Ma_perform at hf
  unfold pre_Ma_perform at hp
  refine lv_aload_n hx hb d_Ma_perform_0 rfl (lv_at hl 0 rfl) ?_
  refine lv_iload_n hx hb d_Ma_perform_1 rfl (lv_at hl 1 rfl) ?_
  have o1 := hp.1
  have hp := hp.2
  refine cs_ret_p hC hw (cs_runV (As := [.int x1]) (rest := []) hC hw hj.2 (ci := 3) rfl rfl (cs_sg_is hj) (c_Ma_topFrame l D cA ad M j hj x1 o1 _) rfl rfl cw_Ma_47 ⟨Nat.le_of_ble_eq_true rfl, Nat.le_of_ble_eq_true rfl⟩ hl.1 rfl rfl (Nat.le_of_ble_eq_true rfl) d_Ma_perform_2 ⟨Nat.zero_le _, Nat.zero_le _⟩) (fun r2 H locs er2 hw => ?_)
  have hp := cs_bdP er2 hp
  have hf := cs_bdE er2 hf
  refine lv_istore_n (lv' := [(2, .int r2), (0, .ref (ad j)), (1, .int x1)]) hx hb d_Ma_perform_5 rfl hl (by decide) rfl (fun ls hl => ?_)
  refine lv_aload_n hx hb d_Ma_perform_6 rfl (lv_at hl 1 rfl) ?_
  refine gf_Ma_cells hC hw hj wd_131 d_Ma_perform_7 ?_
  refine lv_bipush (v := 24) hx hb d_Ma_perform_10 (by decide) ?_
  refine lv_iload_n hx hb d_Ma_perform_12 rfl (lv_at hl 0 rfl) ?_
  refine lv_iadd hx hb d_Ma_perform_13 ?_
  have o3 := hp.1
  have hp := hp.2
  refine cs_iald hC hw (is_Ma1 hj) o3 d_Ma_perform_14 ?_
  refine lv_topi (fun z4 ez4 => ?_)
  have hp := cs_bdP ez4 hp
  have hf := cs_bdE ez4 hf
  refine lv_istore_n (lv' := [(3, .int z4), (2, .int r2), (0, .ref (ad j)), (1, .int x1)]) hx hb d_Ma_perform_15 rfl hl (by decide) rfl (fun ls hl => ?_)
  refine lv_aload_n hx hb d_Ma_perform_16 rfl (lv_at hl 2 rfl) ?_
  refine gf_Ma_program hC hw hj wd_130 d_Ma_perform_17 ?_
  refine lv_iload_n hx hb d_Ma_perform_20 rfl (lv_at hl 1 rfl) ?_
  have o5 := hp.1
  have hp := hp.2
  refine cs_ret_rp hC hw (cs_runV (As := [.int r2]) (rest := []) hC hw is_1.2 (ci := 1) rfl rfl (cs_sg_is is_1) (c_Pr_script l D cA ad M 1 is_1 r2 o5 _) rfl rfl cw_Ma_53 ⟨Nat.le_of_ble_eq_true rfl, Nat.le_of_ble_eq_true rfl⟩ hl.1 rfl rfl (Nat.le_of_ble_eq_true rfl) d_Ma_perform_21 ⟨Nat.zero_le _, Nat.zero_le _⟩) (fun r6 H locs er6 hw => ?_)
  have hp := cs_bdP er6 hp
  have hf := cs_bdE er6 hf
  refine lv_astore (lv' := [(4, .ref (ad r6)), (3, .int z4), (2, .int r2), (0, .ref (ad j)), (1, .int x1)]) hx hb d_Ma_perform_24 hl (by decide) rfl (fun ls hl => ?_)
  refine lv_aload hx hb d_Ma_perform_26 (lv_at hl 0 rfl) ?_
  refine lv_iload_n hx hb d_Ma_perform_28 rfl (lv_at hl 1 rfl) ?_
  have o7 := hp.1
  have hp := hp.2
  refine cs_ret_p hC hw (cs_runV (As := [.int z4]) (rest := []) hC hw (is_script er6 o5).2 (ci := 2) rfl rfl (cs_sg_is (is_script er6 o5)) (c_Sc_actionAt l D cA ad M r6 (is_script er6 o5) z4 o7 _) rfl rfl cw_Ma_116 ⟨Nat.le_of_ble_eq_true rfl, Nat.le_of_ble_eq_true rfl⟩ hl.1 rfl rfl (Nat.le_of_ble_eq_true rfl) d_Ma_perform_29 ⟨Nat.zero_le _, Nat.zero_le _⟩) (fun r8 H locs er8 hw => ?_)
  have hp := cs_bdP er8 hp
  have hf := cs_bdE er8 hf
  rcases Decidable.em (r8 = 1) with c9 | c9
  · have hp := hp.1 c9
    have hf := hf.trans (if_pos c9)
    refine lv_tableIn (off := 65) (tgt := 97) hx hb d_Ma_perform_32 (by rw [c9]; decide) (by rw [c9]; decide) (by rw [c9] <;> rfl) (by decide) ?_
    refine lv_aload_n hx hb d_Ma_perform_97 rfl (lv_at hl 3 rfl) ?_
    refine gf_Ma_cells hC hw hj wd_131 d_Ma_perform_98 ?_
    refine lv_bipush (v := 8) hx hb d_Ma_perform_101 (by decide) ?_
    refine lv_iload_n hx hb d_Ma_perform_103 rfl (lv_at hl 2 rfl) ?_
    refine lv_iadd hx hb d_Ma_perform_104 ?_
    refine lv_aload hx hb d_Ma_perform_105 (lv_at hl 0 rfl) ?_
    refine lv_iload_n hx hb d_Ma_perform_107 rfl (lv_at hl 1 rfl) ?_
    have o10 := hp.1
    have hp := hp.2
    refine cs_ret_p hC hw (cs_runV (As := [.int z4]) (rest := [.int (8 + r2), .ref (ad (j + 1))]) hC hw (is_script er6 o5).2 (ci := 2) rfl rfl (cs_sg_is (is_script er6 o5)) (c_Sc_secondOperandAt l D cA ad M r6 (is_script er6 o5) z4 o10 _) rfl rfl cw_Ma_119 ⟨Nat.le_of_ble_eq_true rfl, Nat.le_of_ble_eq_true rfl⟩ hl.1 rfl rfl (Nat.le_of_ble_eq_true rfl) d_Ma_perform_108 ⟨Nat.zero_le _, Nat.zero_le _⟩) (fun r11 H locs er11 hw => ?_)
    have hp := cs_bdP er11 hp
    have hf := cs_bdE er11 hf
    have o12 := hp.1
    have hp := hp.2
    refine cs_iast hC hw (is_Ma1 hj) o12 d_Ma_perform_111 (fun N13 H locs eN13 hw => ?_)
    have hp := cs_bdP eN13 hp
    have hf := cs_bdE eN13 hf
    refine lv_goto (tgt := 134) hx hb d_Ma_perform_112 (by decide) ?_
    refine lv_aload_n hx hb d_Ma_perform_134 rfl (lv_at hl 3 rfl) ?_
    refine gf_Ma_cells hC hw hj wd_131 d_Ma_perform_135 ?_
    refine lv_bipush (v := 24) hx hb d_Ma_perform_138 (by decide) ?_
    refine lv_iload_n hx hb d_Ma_perform_140 rfl (lv_at hl 2 rfl) ?_
    refine lv_iadd hx hb d_Ma_perform_141 ?_
    refine lv_dup2_11 hx hb d_Ma_perform_142 rfl rfl ?_
    have o14 := hp.1
    have hp := hp.2
    refine cs_iald hC hw (is_Ma1 hj) o14 d_Ma_perform_143 ?_
    refine lv_iconst (v := 1) hx hb d_Ma_perform_144 (by decide) ?_
    refine lv_iadd hx hb d_Ma_perform_145 ?_
    have o15 := hp.1
    have hp := hp.2
    refine cs_iast hC hw (is_Ma1 hj) o15 d_Ma_perform_146 (fun N16 H locs eN16 hw => ?_)
    have hf := cs_bdE eN16 hf
    exact cs_vret hC hw hr hlk hf d_Ma_perform_147
  · have hp := hp.2 c9
    have hf := hf.trans (if_neg c9)
    rcases Decidable.em (r8 = 2) with c17 | c17
    · have hp := hp.1 c17
      have hf := hf.trans (if_pos c17)
      refine lv_tableIn (off := 83) (tgt := 115) hx hb d_Ma_perform_32 (by rw [c17]; decide) (by rw [c17]; decide) (by rw [c17] <;> rfl) (by decide) ?_
      refine lv_aload_n hx hb d_Ma_perform_115 rfl (lv_at hl 3 rfl) ?_
      refine lv_iload_n hx hb d_Ma_perform_116 rfl (lv_at hl 4 rfl) ?_
      have o18 := hp.1
      have hp := hp.2
      refine cs_ret_v hC hw (cs_runV (As := [.int x1]) (rest := []) hC hw hj.2 (ci := 3) rfl rfl (cs_sg_is hj) (c_Ma_makeUse l D cA ad M j hj x1 o18 _) rfl rfl cw_Ma_107 ⟨Nat.le_of_ble_eq_true rfl, Nat.le_of_ble_eq_true rfl⟩ hl.1 rfl rfl (Nat.le_of_ble_eq_true rfl) d_Ma_perform_117 ⟨Nat.zero_le _, Nat.zero_le _⟩) (fun u19 H locs eu19 hw => ?_)
      have hf := cs_bdE eu19 hf
      exact cs_vret hC hw hr hlk hf d_Ma_perform_120
    · have hp := hp.2 c17
      have hf := hf.trans (if_neg c17)
      rcases Decidable.em (r8 = 3) with c20 | c20
      · have hp := hp.1 c20
        have hf := hf.trans (if_pos c20)
        refine lv_tableIn (off := 36) (tgt := 68) hx hb d_Ma_perform_32 (by rw [c20]; decide) (by rw [c20]; decide) (by rw [c20] <;> rfl) (by decide) ?_
        refine lv_aload_n hx hb d_Ma_perform_68 rfl (lv_at hl 3 rfl) ?_
        refine lv_iload_n hx hb d_Ma_perform_69 rfl (lv_at hl 4 rfl) ?_
        refine lv_iconst (v := 1) hx hb d_Ma_perform_70 (by decide) ?_
        refine lv_aload hx hb d_Ma_perform_71 (lv_at hl 0 rfl) ?_
        refine lv_iload_n hx hb d_Ma_perform_73 rfl (lv_at hl 1 rfl) ?_
        have o21 := hp.1
        have hp := hp.2
        refine cs_ret_p hC hw (cs_runV (As := [.int z4]) (rest := [.int 1, .int x1, .ref (ad j)]) hC hw (is_script er6 o5).2 (ci := 2) rfl rfl (cs_sg_is (is_script er6 o5)) (c_Sc_firstOperandAt l D cA ad M r6 (is_script er6 o5) z4 o21 _) rfl rfl cw_Ma_122 ⟨Nat.le_of_ble_eq_true rfl, Nat.le_of_ble_eq_true rfl⟩ hl.1 rfl rfl (Nat.le_of_ble_eq_true rfl) d_Ma_perform_74 ⟨Nat.zero_le _, Nat.zero_le _⟩) (fun r22 H locs er22 hw => ?_)
        have hp := cs_bdP er22 hp
        have hf := cs_bdE er22 hf
        refine lv_iadd hx hb d_Ma_perform_77 ?_
        have o23 := hp.1
        have hp := hp.2
        refine cs_ret_v hC hw (cs_runV (As := [.int x1, .int (1 + r22)]) (rest := []) hC hw hj.2 (ci := 3) rfl rfl (cs_sg_is hj) (c_Ma_come l D cA ad M j hj x1 (1 + r22) o23 _) rfl rfl cw_Ma_104 ⟨Nat.le_of_ble_eq_true rfl, Nat.le_of_ble_eq_true rfl⟩ hl.1 rfl rfl (Nat.le_of_ble_eq_true rfl) d_Ma_perform_78 ⟨Nat.zero_le _, Nat.zero_le _⟩) (fun u24 H locs eu24 hw => ?_)
        have hf := cs_bdE eu24 hf
        exact cs_vret hC hw hr hlk hf d_Ma_perform_81
      · have hp := hp.2 c20
        have hf := hf.trans (if_neg c20)
        rcases Decidable.em (r8 = 4) with c25 | c25
        · have hp := hp.1 c25
          have hf := hf.trans (if_pos c25)
          refine lv_tableIn (off := 50) (tgt := 82) hx hb d_Ma_perform_32 (by rw [c25]; decide) (by rw [c25]; decide) (by rw [c25] <;> rfl) (by decide) ?_
          refine lv_aload_n hx hb d_Ma_perform_82 rfl (lv_at hl 3 rfl) ?_
          refine lv_iload_n hx hb d_Ma_perform_83 rfl (lv_at hl 4 rfl) ?_
          refine lv_bipush (v := 11) hx hb d_Ma_perform_84 (by decide) ?_
          refine lv_aload hx hb d_Ma_perform_86 (lv_at hl 0 rfl) ?_
          refine lv_iload_n hx hb d_Ma_perform_88 rfl (lv_at hl 1 rfl) ?_
          have o26 := hp.1
          have hp := hp.2
          refine cs_ret_p hC hw (cs_runV (As := [.int z4]) (rest := [.int 11, .int x1, .ref (ad j)]) hC hw (is_script er6 o5).2 (ci := 2) rfl rfl (cs_sg_is (is_script er6 o5)) (c_Sc_firstOperandAt l D cA ad M r6 (is_script er6 o5) z4 o26 _) rfl rfl cw_Ma_122 ⟨Nat.le_of_ble_eq_true rfl, Nat.le_of_ble_eq_true rfl⟩ hl.1 rfl rfl (Nat.le_of_ble_eq_true rfl) d_Ma_perform_89 ⟨Nat.zero_le _, Nat.zero_le _⟩) (fun r27 H locs er27 hw => ?_)
          have hp := cs_bdP er27 hp
          have hf := cs_bdE er27 hf
          refine lv_iadd hx hb d_Ma_perform_92 ?_
          have o28 := hp.1
          have hp := hp.2
          refine cs_ret_v hC hw (cs_runV (As := [.int x1, .int (11 + r27)]) (rest := []) hC hw hj.2 (ci := 3) rfl rfl (cs_sg_is hj) (c_Ma_come l D cA ad M j hj x1 (11 + r27) o28 _) rfl rfl cw_Ma_104 ⟨Nat.le_of_ble_eq_true rfl, Nat.le_of_ble_eq_true rfl⟩ hl.1 rfl rfl (Nat.le_of_ble_eq_true rfl) d_Ma_perform_93 ⟨Nat.zero_le _, Nat.zero_le _⟩) (fun u29 H locs eu29 hw => ?_)
          have hf := cs_bdE eu29 hf
          exact cs_vret hC hw hr hlk hf d_Ma_perform_96
        · have hp := hp.2 c25
          have hf := hf.trans (if_neg c25)
          rcases Decidable.em (r8 = 5) with c30 | c30
          · have hp := hp.1 c30
            have hf := hf.trans (if_pos c30)
            refine lv_tableIn (off := 89) (tgt := 121) hx hb d_Ma_perform_32 (by rw [c30]; decide) (by rw [c30]; decide) (by rw [c30] <;> rfl) (by decide) ?_
            refine lv_aload_n hx hb d_Ma_perform_121 rfl (lv_at hl 3 rfl) ?_
            refine lv_aload hx hb d_Ma_perform_122 (lv_at hl 0 rfl) ?_
            refine lv_iload_n hx hb d_Ma_perform_124 rfl (lv_at hl 1 rfl) ?_
            have o31 := hp.1
            have hp := hp.2
            refine cs_ret_p hC hw (cs_runV (As := [.int z4]) (rest := [.ref (ad j)]) hC hw (is_script er6 o5).2 (ci := 2) rfl rfl (cs_sg_is (is_script er6 o5)) (c_Sc_firstOperandAt l D cA ad M r6 (is_script er6 o5) z4 o31 _) rfl rfl cw_Ma_122 ⟨Nat.le_of_ble_eq_true rfl, Nat.le_of_ble_eq_true rfl⟩ hl.1 rfl rfl (Nat.le_of_ble_eq_true rfl) d_Ma_perform_125 ⟨Nat.zero_le _, Nat.zero_le _⟩) (fun r32 H locs er32 hw => ?_)
            have hp := cs_bdP er32 hp
            have hf := cs_bdE er32 hf
            have o33 := hp.1
            have hp := hp.2
            refine cs_ret_v hC hw (cs_runV (As := [.int r32]) (rest := []) hC hw hj.2 (ci := 3) rfl rfl (cs_sg_is hj) (c_Ma_write l D cA ad M j hj r32 o33 _) rfl rfl cw_Ma_128 ⟨Nat.le_of_ble_eq_true rfl, Nat.le_of_ble_eq_true rfl⟩ hl.1 rfl rfl (Nat.le_of_ble_eq_true rfl) d_Ma_perform_128 ⟨Nat.zero_le _, Nat.zero_le _⟩) (fun u34 H locs eu34 hw => ?_)
            have hp := cs_bdP eu34 hp
            have hf := cs_bdE eu34 hf
            refine lv_goto (tgt := 134) hx hb d_Ma_perform_131 (by decide) ?_
            refine lv_aload_n hx hb d_Ma_perform_134 rfl (lv_at hl 3 rfl) ?_
            refine gf_Ma_cells hC hw hj wd_131 d_Ma_perform_135 ?_
            refine lv_bipush (v := 24) hx hb d_Ma_perform_138 (by decide) ?_
            refine lv_iload_n hx hb d_Ma_perform_140 rfl (lv_at hl 2 rfl) ?_
            refine lv_iadd hx hb d_Ma_perform_141 ?_
            refine lv_dup2_11 hx hb d_Ma_perform_142 rfl rfl ?_
            have o35 := hp.1
            have hp := hp.2
            refine cs_iald hC hw (is_Ma1 hj) o35 d_Ma_perform_143 ?_
            refine lv_iconst (v := 1) hx hb d_Ma_perform_144 (by decide) ?_
            refine lv_iadd hx hb d_Ma_perform_145 ?_
            have o36 := hp.1
            have hp := hp.2
            refine cs_iast hC hw (is_Ma1 hj) o36 d_Ma_perform_146 (fun N37 H locs eN37 hw => ?_)
            have hf := cs_bdE eN37 hf
            exact cs_vret hC hw hr hlk hf d_Ma_perform_147
          · have hp := hp.2 c30
            have hf := hf.trans (if_neg c30)
            refine lv_tableOut (tgt := 134) hx hb d_Ma_perform_32 (by have q0 := lv_neT c9 (show (1 : Int32).toInt = 1 by decide); have q1 := lv_neT c17 (show (2 : Int32).toInt = 2 by decide); have q2 := lv_neT c20 (show (3 : Int32).toInt = 3 by decide); have q3 := lv_neT c25 (show (4 : Int32).toInt = 4 by decide); have q4 := lv_neT c30 (show (5 : Int32).toInt = 5 by decide); omega) (by decide) ?_
            refine lv_aload_n hx hb d_Ma_perform_134 rfl (lv_at hl 3 rfl) ?_
            refine gf_Ma_cells hC hw hj wd_131 d_Ma_perform_135 ?_
            refine lv_bipush (v := 24) hx hb d_Ma_perform_138 (by decide) ?_
            refine lv_iload_n hx hb d_Ma_perform_140 rfl (lv_at hl 2 rfl) ?_
            refine lv_iadd hx hb d_Ma_perform_141 ?_
            refine lv_dup2_11 hx hb d_Ma_perform_142 rfl rfl ?_
            have o38 := hp.1
            have hp := hp.2
            refine cs_iald hC hw (is_Ma1 hj) o38 d_Ma_perform_143 ?_
            refine lv_iconst (v := 1) hx hb d_Ma_perform_144 (by decide) ?_
            refine lv_iadd hx hb d_Ma_perform_145 ?_
            have o39 := hp.1
            have hp := hp.2
            refine cs_iast hC hw (is_Ma1 hj) o39 d_Ma_perform_146 (fun N40 H locs eN40 hw => ?_)
            have hf := cs_bdE eN40 hf
            exact cs_vret hC hw hr hlk hf d_Ma_perform_147
theorem d_Ma_advance_0 : decode prog_4_method_19_code 0 = .ok (.aload_n 0, 1) := by decide +kernel
theorem d_Ma_advance_1 : decode prog_4_method_19_code 1 = .ok (.getfield 11, 3) := by decide +kernel
theorem d_Ma_advance_4 : decode prog_4_method_19_code 4 = .ok (.bipush 41, 2) := by decide +kernel
theorem d_Ma_advance_6 : decode prog_4_method_19_code 6 = .ok (.dup2, 1) := by decide +kernel
theorem d_Ma_advance_7 : decode prog_4_method_19_code 7 = .ok (.iaload, 1) := by decide +kernel
theorem d_Ma_advance_8 : decode prog_4_method_19_code 8 = .ok (.iconst 1, 1) := by decide +kernel
theorem d_Ma_advance_9 : decode prog_4_method_19_code 9 = .ok (.iadd, 1) := by decide +kernel
theorem d_Ma_advance_10 : decode prog_4_method_19_code 10 = .ok (.iastore, 1) := by decide +kernel
theorem d_Ma_advance_11 : decode prog_4_method_19_code 11 = .ok (.aload_n 0, 1) := by decide +kernel
theorem d_Ma_advance_12 : decode prog_4_method_19_code 12 = .ok (.iload_n 1, 1) := by decide +kernel
theorem d_Ma_advance_13 : decode prog_4_method_19_code 13 = .ok (.invokevirtual 47, 3) := by decide +kernel
theorem d_Ma_advance_16 : decode prog_4_method_19_code 16 = .ok (.istore_n 2, 1) := by decide +kernel
theorem d_Ma_advance_17 : decode prog_4_method_19_code 17 = .ok (.aload_n 0, 1) := by decide +kernel
theorem d_Ma_advance_18 : decode prog_4_method_19_code 18 = .ok (.getfield 18, 3) := by decide +kernel
theorem d_Ma_advance_21 : decode prog_4_method_19_code 21 = .ok (.iload_n 2, 1) := by decide +kernel
theorem d_Ma_advance_22 : decode prog_4_method_19_code 22 = .ok (.aload_n 0, 1) := by decide +kernel
theorem d_Ma_advance_23 : decode prog_4_method_19_code 23 = .ok (.getfield 11, 3) := by decide +kernel
theorem d_Ma_advance_26 : decode prog_4_method_19_code 26 = .ok (.bipush 24, 2) := by decide +kernel
theorem d_Ma_advance_28 : decode prog_4_method_19_code 28 = .ok (.iload_n 2, 1) := by decide +kernel
theorem d_Ma_advance_29 : decode prog_4_method_19_code 29 = .ok (.iadd, 1) := by decide +kernel
theorem d_Ma_advance_30 : decode prog_4_method_19_code 30 = .ok (.iaload, 1) := by decide +kernel
theorem d_Ma_advance_31 : decode prog_4_method_19_code 31 = .ok (.invokevirtual 63, 3) := by decide +kernel
theorem d_Ma_advance_34 : decode prog_4_method_19_code 34 = .ok (.istore_n 3, 1) := by decide +kernel
theorem d_Ma_advance_35 : decode prog_4_method_19_code 35 = .ok (.aload_n 0, 1) := by decide +kernel
theorem d_Ma_advance_36 : decode prog_4_method_19_code 36 = .ok (.getfield 11, 3) := by decide +kernel
theorem d_Ma_advance_39 : decode prog_4_method_19_code 39 = .ok (.bipush 38, 2) := by decide +kernel
theorem d_Ma_advance_41 : decode prog_4_method_19_code 41 = .ok (.iload_n 1, 1) := by decide +kernel
theorem d_Ma_advance_42 : decode prog_4_method_19_code 42 = .ok (.iadd, 1) := by decide +kernel
theorem d_Ma_advance_43 : decode prog_4_method_19_code 43 = .ok (.iaload, 1) := by decide +kernel
theorem d_Ma_advance_44 : decode prog_4_method_19_code 44 = .ok (.ifCond .eq 11, 3) := by decide +kernel
theorem d_Ma_advance_47 : decode prog_4_method_19_code 47 = .ok (.aload_n 0, 1) := by decide +kernel
theorem d_Ma_advance_48 : decode prog_4_method_19_code 48 = .ok (.iload_n 1, 1) := by decide +kernel
theorem d_Ma_advance_49 : decode prog_4_method_19_code 49 = .ok (.invokevirtual 82, 3) := by decide +kernel
theorem d_Ma_advance_52 : decode prog_4_method_19_code 52 = .ok (.goto 38, 3) := by decide +kernel
theorem d_Ma_advance_55 : decode prog_4_method_19_code 55 = .ok (.aload_n 0, 1) := by decide +kernel
theorem d_Ma_advance_56 : decode prog_4_method_19_code 56 = .ok (.iload_n 2, 1) := by decide +kernel
theorem d_Ma_advance_57 : decode prog_4_method_19_code 57 = .ok (.invokevirtual 50, 3) := by decide +kernel
theorem d_Ma_advance_60 : decode prog_4_method_19_code 60 = .ok (.ifCond .eq 11, 3) := by decide +kernel
theorem d_Ma_advance_63 : decode prog_4_method_19_code 63 = .ok (.aload_n 0, 1) := by decide +kernel
theorem d_Ma_advance_64 : decode prog_4_method_19_code 64 = .ok (.iload_n 1, 1) := by decide +kernel
theorem d_Ma_advance_65 : decode prog_4_method_19_code 65 = .ok (.invokevirtual 86, 3) := by decide +kernel
theorem d_Ma_advance_68 : decode prog_4_method_19_code 68 = .ok (.goto 22, 3) := by decide +kernel
theorem d_Ma_advance_71 : decode prog_4_method_19_code 71 = .ok (.iload_n 3, 1) := by decide +kernel
theorem d_Ma_advance_72 : decode prog_4_method_19_code 72 = .ok (.iconst (-1), 1) := by decide +kernel
theorem d_Ma_advance_73 : decode prog_4_method_19_code 73 = .ok (.if_icmp .eq 12, 3) := by decide +kernel
theorem d_Ma_advance_76 : decode prog_4_method_19_code 76 = .ok (.aload_n 0, 1) := by decide +kernel
theorem d_Ma_advance_77 : decode prog_4_method_19_code 77 = .ok (.iload_n 1, 1) := by decide +kernel
theorem d_Ma_advance_78 : decode prog_4_method_19_code 78 = .ok (.iload_n 3, 1) := by decide +kernel
theorem d_Ma_advance_79 : decode prog_4_method_19_code 79 = .ok (.invokevirtual 89, 3) := by decide +kernel
theorem d_Ma_advance_82 : decode prog_4_method_19_code 82 = .ok (.goto 8, 3) := by decide +kernel
theorem d_Ma_advance_85 : decode prog_4_method_19_code 85 = .ok (.aload_n 0, 1) := by decide +kernel
theorem d_Ma_advance_86 : decode prog_4_method_19_code 86 = .ok (.iload_n 1, 1) := by decide +kernel
theorem d_Ma_advance_87 : decode prog_4_method_19_code 87 = .ok (.invokevirtual 93, 3) := by decide +kernel
theorem d_Ma_advance_90 : decode prog_4_method_19_code 90 = .ok (.return_, 1) := by decide +kernel
def f_Ma_advance (M : cs_Mem) (j : Nat) (x1 : Int32) : cs_Mem :=
  cs_bd (cs_up M (j + 1) (upd (M (j + 1)) 41 ((M (j + 1) 41) + 1))) fun (N3 : cs_Mem) =>
  cs_bd (f_Ma_topFrame N3 j x1) fun (r5 : Int32) =>
  cs_bd (f_Pr_usedBy N3 1 r5 (N3 (j + 1) (24 + r5).toNatClampNeg)) fun (r8 : Int32) =>
  if (N3 (j + 1) (38 + x1).toNatClampNeg) = 0 then
    cs_bd (f_Ma_isBehindLast N3 j r5) fun (r12 : Int32) =>
    if r12 = 0 then
      if r8 = (-1) then
        cs_bd (f_Ma_perform N3 j x1) fun (u16 : cs_Mem) =>
        u16
      else
        cs_bd (f_Ma_use N3 j x1 r8) fun (u18 : cs_Mem) =>
        u18
    else
      cs_bd (f_Ma_finishTop N3 j x1) fun (u20 : cs_Mem) =>
      u20
  else
    cs_bd (f_Ma_failTop N3 j x1) fun (u22 : cs_Mem) =>
    u22
def pre_Ma_advance (M : cs_Mem) (j : Nat) (x1 : Int32) : Prop :=
  (vp_in 41 (cs_ln M (j + 1))) ∧
  (vp_in 41 (cs_ln M (j + 1))) ∧
  cs_bd (cs_up M (j + 1) (upd (M (j + 1)) 41 ((M (j + 1) 41) + 1))) fun (N3 : cs_Mem) =>
  (pre_Ma_topFrame N3 j x1) ∧
  cs_bd (f_Ma_topFrame N3 j x1) fun (r5 : Int32) =>
  (vp_in (24 + r5) (cs_ln N3 (j + 1))) ∧
  (pre_Pr_usedBy N3 1 r5 (N3 (j + 1) (24 + r5).toNatClampNeg)) ∧
  cs_bd (f_Pr_usedBy N3 1 r5 (N3 (j + 1) (24 + r5).toNatClampNeg)) fun (r8 : Int32) =>
  (vp_in (38 + x1) (cs_ln N3 (j + 1))) ∧
  ((N3 (j + 1) (38 + x1).toNatClampNeg) = 0 →
    (pre_Ma_isBehindLast N3 j r5) ∧
    cs_bd (f_Ma_isBehindLast N3 j r5) fun (r12 : Int32) =>
    (r12 = 0 →
      (r8 = (-1) →
        (pre_Ma_perform N3 j x1) ∧
        True
      ) ∧ (¬ (r8 = (-1)) →
        (pre_Ma_use N3 j x1 r8) ∧
        True
      )
    ) ∧ (¬ (r12 = 0) →
      (pre_Ma_finishTop N3 j x1) ∧
      True
    )
  ) ∧ (¬ ((N3 (j + 1) (38 + x1).toNatClampNeg) = 0) →
    (pre_Ma_failTop N3 j x1) ∧
    True
  )
set_option maxHeartbeats 4000000 in
set_option maxRecDepth 100000 in
theorem c_Ma_advance (l : Launch) (D : va_G) (cA : Nat → ClassId) (ad : Nat → Nat) (M : cs_Mem) (j : Nat) (hj : cs_is 3 j) (x1 : Int32) (hp : pre_Ma_advance M j x1) : cs_Cv l ⟨"ClassStarter$Machine", "advance", "(I)V"⟩ prog_4_method_19_code 4 none ({ frames := 4, cells := 0, slots := 0, locals := 91 }) D cA ad M [.ref (ad j), .int x1] (f_Ma_advance M j x1) := by
  refine cs_entry (by decide) (Nat.le_of_ble_eq_true rfl) (fun p e s m below meth c A ls hC hr hlk _ hw hl => ?_)
  have hx := hC.1
  have hb := hC.2.1
  have hl : lv_has ls 4 [(0, .ref (ad j)), (1, .int x1)] := hl
  generalize hF : f_Ma_advance M j x1 = F
  have hf := hF.symm
  unfold f_Ma_advance at hf
  unfold pre_Ma_advance at hp
  refine lv_aload_n hx hb d_Ma_advance_0 rfl (lv_at hl 0 rfl) ?_
  refine gf_Ma_cells hC hw hj wd_131 d_Ma_advance_1 ?_
  refine lv_bipush (v := 41) hx hb d_Ma_advance_4 (by decide) ?_
  refine lv_dup2_11 hx hb d_Ma_advance_6 rfl rfl ?_
  have o1 := hp.1
  have hp := hp.2
  refine cs_iald hC hw (is_Ma1 hj) o1 d_Ma_advance_7 ?_
  refine lv_iconst (v := 1) hx hb d_Ma_advance_8 (by decide) ?_
  refine lv_iadd hx hb d_Ma_advance_9 ?_
  have o2 := hp.1
  have hp := hp.2
  refine cs_iast hC hw (is_Ma1 hj) o2 d_Ma_advance_10 (fun N3 H locs eN3 hw => ?_)
  have hp := cs_bdP eN3 hp
  have hf := cs_bdE eN3 hf
  refine lv_aload_n hx hb d_Ma_advance_11 rfl (lv_at hl 0 rfl) ?_
  refine lv_iload_n hx hb d_Ma_advance_12 rfl (lv_at hl 1 rfl) ?_
  have o4 := hp.1
  have hp := hp.2
  refine cs_ret_p hC hw (cs_runV (As := [.int x1]) (rest := []) hC hw hj.2 (ci := 3) rfl rfl (cs_sg_is hj) (c_Ma_topFrame l D cA ad N3 j hj x1 o4 _) rfl rfl cw_Ma_47 ⟨Nat.le_of_ble_eq_true rfl, Nat.le_of_ble_eq_true rfl⟩ hl.1 rfl rfl (Nat.le_of_ble_eq_true rfl) d_Ma_advance_13 ⟨Nat.zero_le _, Nat.zero_le _⟩) (fun r5 H locs er5 hw => ?_)
  have hp := cs_bdP er5 hp
  have hf := cs_bdE er5 hf
  refine lv_istore_n (lv' := [(2, .int r5), (0, .ref (ad j)), (1, .int x1)]) hx hb d_Ma_advance_16 rfl hl (by decide) rfl (fun ls hl => ?_)
  refine lv_aload_n hx hb d_Ma_advance_17 rfl (lv_at hl 1 rfl) ?_
  refine gf_Ma_program hC hw hj wd_130 d_Ma_advance_18 ?_
  refine lv_iload_n hx hb d_Ma_advance_21 rfl (lv_at hl 0 rfl) ?_
  refine lv_aload_n hx hb d_Ma_advance_22 rfl (lv_at hl 1 rfl) ?_
  refine gf_Ma_cells hC hw hj wd_131 d_Ma_advance_23 ?_
  refine lv_bipush (v := 24) hx hb d_Ma_advance_26 (by decide) ?_
  refine lv_iload_n hx hb d_Ma_advance_28 rfl (lv_at hl 0 rfl) ?_
  refine lv_iadd hx hb d_Ma_advance_29 ?_
  have o6 := hp.1
  have hp := hp.2
  refine cs_iald hC hw (is_Ma1 hj) o6 d_Ma_advance_30 ?_
  have o7 := hp.1
  have hp := hp.2
  refine cs_ret_p hC hw (cs_runV (As := [.int r5, .int (N3 (j + 1) (24 + r5).toNatClampNeg)]) (rest := []) hC hw is_1.2 (ci := 1) rfl rfl (cs_sg_is is_1) (c_Pr_usedBy l D cA ad N3 1 is_1 r5 (N3 (j + 1) (24 + r5).toNatClampNeg) o7 _) rfl rfl cw_Ma_63 ⟨Nat.le_of_ble_eq_true rfl, Nat.le_of_ble_eq_true rfl⟩ hl.1 rfl rfl (Nat.le_of_ble_eq_true rfl) d_Ma_advance_31 ⟨Nat.zero_le _, Nat.zero_le _⟩) (fun r8 H locs er8 hw => ?_)
  have hp := cs_bdP er8 hp
  have hf := cs_bdE er8 hf
  refine lv_istore_n (lv' := [(3, .int r8), (2, .int r5), (0, .ref (ad j)), (1, .int x1)]) hx hb d_Ma_advance_34 rfl hl (by decide) rfl (fun ls hl => ?_)
  refine lv_aload_n hx hb d_Ma_advance_35 rfl (lv_at hl 2 rfl) ?_
  refine gf_Ma_cells hC hw hj wd_131 d_Ma_advance_36 ?_
  refine lv_bipush (v := 38) hx hb d_Ma_advance_39 (by decide) ?_
  refine lv_iload_n hx hb d_Ma_advance_41 rfl (lv_at hl 3 rfl) ?_
  refine lv_iadd hx hb d_Ma_advance_42 ?_
  have o9 := hp.1
  have hp := hp.2
  refine cs_iald hC hw (is_Ma1 hj) o9 d_Ma_advance_43 ?_
  refine lv_if_eq (tgt := 55) hx hb d_Ma_advance_44 (by decide) (fun c10 => ?_) (fun c10 => ?_)
  · have hp := hp.1 c10
    have hf := hf.trans (if_pos c10)
    refine lv_aload_n hx hb d_Ma_advance_55 rfl (lv_at hl 2 rfl) ?_
    refine lv_iload_n hx hb d_Ma_advance_56 rfl (lv_at hl 1 rfl) ?_
    have o11 := hp.1
    have hp := hp.2
    refine cs_ret_p hC hw (cs_runV (As := [.int r5]) (rest := []) hC hw hj.2 (ci := 3) rfl rfl (cs_sg_is hj) (c_Ma_isBehindLast l D cA ad N3 j hj r5 o11 _) rfl rfl cw_Ma_50 ⟨Nat.le_of_ble_eq_true rfl, Nat.le_of_ble_eq_true rfl⟩ hl.1 rfl rfl (Nat.le_of_ble_eq_true rfl) d_Ma_advance_57 ⟨Nat.zero_le _, Nat.zero_le _⟩) (fun r12 H locs er12 hw => ?_)
    have hp := cs_bdP er12 hp
    have hf := cs_bdE er12 hf
    refine lv_if_eq (tgt := 71) hx hb d_Ma_advance_60 (by decide) (fun c13 => ?_) (fun c13 => ?_)
    · have hp := hp.1 c13
      have hf := hf.trans (if_pos c13)
      refine lv_iload_n hx hb d_Ma_advance_71 rfl (lv_at hl 0 rfl) ?_
      refine lv_iconst (v := (-1)) hx hb d_Ma_advance_72 (by decide) ?_
      refine lv_icmp_eq (tgt := 85) hx hb d_Ma_advance_73 (by decide) (fun c14 => ?_) (fun c14 => ?_)
      · have hp := hp.1 c14
        have hf := hf.trans (if_pos c14)
        refine lv_aload_n hx hb d_Ma_advance_85 rfl (lv_at hl 2 rfl) ?_
        refine lv_iload_n hx hb d_Ma_advance_86 rfl (lv_at hl 3 rfl) ?_
        have o15 := hp.1
        have hp := hp.2
        refine cs_ret_v hC hw (cs_runV (As := [.int x1]) (rest := []) hC hw hj.2 (ci := 3) rfl rfl (cs_sg_is hj) (c_Ma_perform l D cA ad N3 j hj x1 o15 _) rfl rfl cw_Ma_93 ⟨Nat.le_of_ble_eq_true rfl, Nat.le_of_ble_eq_true rfl⟩ hl.1 rfl rfl (Nat.le_of_ble_eq_true rfl) d_Ma_advance_87 ⟨Nat.zero_le _, Nat.zero_le _⟩) (fun u16 H locs eu16 hw => ?_)
        have hf := cs_bdE eu16 hf
        exact cs_vret hC hw hr hlk hf d_Ma_advance_90
      · have hp := hp.2 c14
        have hf := hf.trans (if_neg c14)
        refine lv_aload_n hx hb d_Ma_advance_76 rfl (lv_at hl 2 rfl) ?_
        refine lv_iload_n hx hb d_Ma_advance_77 rfl (lv_at hl 3 rfl) ?_
        refine lv_iload_n hx hb d_Ma_advance_78 rfl (lv_at hl 0 rfl) ?_
        have o17 := hp.1
        have hp := hp.2
        refine cs_ret_v hC hw (cs_runV (As := [.int x1, .int r8]) (rest := []) hC hw hj.2 (ci := 3) rfl rfl (cs_sg_is hj) (c_Ma_use l D cA ad N3 j hj x1 r8 o17 _) rfl rfl cw_Ma_89 ⟨Nat.le_of_ble_eq_true rfl, Nat.le_of_ble_eq_true rfl⟩ hl.1 rfl rfl (Nat.le_of_ble_eq_true rfl) d_Ma_advance_79 ⟨Nat.zero_le _, Nat.zero_le _⟩) (fun u18 H locs eu18 hw => ?_)
        have hf := cs_bdE eu18 hf
        refine lv_goto (tgt := 90) hx hb d_Ma_advance_82 (by decide) ?_
        exact cs_vret hC hw hr hlk hf d_Ma_advance_90
    · have hp := hp.2 c13
      have hf := hf.trans (if_neg c13)
      refine lv_aload_n hx hb d_Ma_advance_63 rfl (lv_at hl 2 rfl) ?_
      refine lv_iload_n hx hb d_Ma_advance_64 rfl (lv_at hl 3 rfl) ?_
      have o19 := hp.1
      have hp := hp.2
      refine cs_ret_v hC hw (cs_runV (As := [.int x1]) (rest := []) hC hw hj.2 (ci := 3) rfl rfl (cs_sg_is hj) (c_Ma_finishTop l D cA ad N3 j hj x1 o19 _) rfl rfl cw_Ma_86 ⟨Nat.le_of_ble_eq_true rfl, Nat.le_of_ble_eq_true rfl⟩ hl.1 rfl rfl (Nat.le_of_ble_eq_true rfl) d_Ma_advance_65 ⟨Nat.zero_le _, Nat.zero_le _⟩) (fun u20 H locs eu20 hw => ?_)
      have hf := cs_bdE eu20 hf
      refine lv_goto (tgt := 90) hx hb d_Ma_advance_68 (by decide) ?_
      exact cs_vret hC hw hr hlk hf d_Ma_advance_90
  · have hp := hp.2 c10
    have hf := hf.trans (if_neg c10)
    refine lv_aload_n hx hb d_Ma_advance_47 rfl (lv_at hl 2 rfl) ?_
    refine lv_iload_n hx hb d_Ma_advance_48 rfl (lv_at hl 3 rfl) ?_
    have o21 := hp.1
    have hp := hp.2
    refine cs_ret_v hC hw (cs_runV (As := [.int x1]) (rest := []) hC hw hj.2 (ci := 3) rfl rfl (cs_sg_is hj) (c_Ma_failTop l D cA ad N3 j hj x1 o21 _) rfl rfl cw_Ma_82 ⟨Nat.le_of_ble_eq_true rfl, Nat.le_of_ble_eq_true rfl⟩ hl.1 rfl rfl (Nat.le_of_ble_eq_true rfl) d_Ma_advance_49 ⟨Nat.zero_le _, Nat.zero_le _⟩) (fun u22 H locs eu22 hw => ?_)
    have hf := cs_bdE eu22 hf
    refine lv_goto (tgt := 90) hx hb d_Ma_advance_52 (by decide) ?_
    exact cs_vret hC hw hr hlk hf d_Ma_advance_90
theorem d_Ma_steps_0 : decode prog_4_method_5_code 0 = .ok (.aload_n 0, 1) := by decide +kernel
theorem d_Ma_steps_1 : decode prog_4_method_5_code 1 = .ok (.getfield 11, 3) := by decide +kernel
theorem d_Ma_steps_4 : decode prog_4_method_5_code 4 = .ok (.bipush 41, 2) := by decide +kernel
theorem d_Ma_steps_6 : decode prog_4_method_5_code 6 = .ok (.iaload, 1) := by decide +kernel
theorem d_Ma_steps_7 : decode prog_4_method_5_code 7 = .ok (.ireturn, 1) := by decide +kernel
def f_Ma_steps (M : cs_Mem) (j : Nat) : Int32 :=
  M (j + 1) 41
def pre_Ma_steps (M : cs_Mem) (j : Nat) : Prop :=
  (vp_in 41 (cs_ln M (j + 1))) ∧
  True
set_option maxHeartbeats 4000000 in
set_option maxRecDepth 100000 in
theorem c_Ma_steps (l : Launch) (D : va_G) (cA : Nat → ClassId) (ad : Nat → Nat) (M : cs_Mem) (j : Nat) (hj : cs_is 3 j) (hp : pre_Ma_steps M j) : cs_Ci l ⟨"ClassStarter$Machine", "steps", "()I"⟩ prog_4_method_5_code 1 (some .int) ({ frames := 0, cells := 0, slots := 0, locals := 0 }) D cA ad M [.ref (ad j)] ((f_Ma_steps M j, M)) := by
  refine cs_entry (by decide) (Nat.le_of_ble_eq_true rfl) (fun p e s m below meth c A ls hC hr hlk _ hw hl => ?_)
  have hx := hC.1
  have hb := hC.2.1
  have hl : lv_has ls 1 [(0, .ref (ad j))] := hl
  generalize hF : f_Ma_steps M j = F
  have hf := hF.symm
  unfold f_Ma_steps at hf
  unfold pre_Ma_steps at hp
  refine lv_aload_n hx hb d_Ma_steps_0 rfl (lv_at hl 0 rfl) ?_
  refine gf_Ma_cells hC hw hj wd_131 d_Ma_steps_1 ?_
  refine lv_bipush (v := 41) hx hb d_Ma_steps_4 (by decide) ?_
  have o1 := hp.1
  have hp := hp.2
  refine cs_iald hC hw (is_Ma1 hj) o1 d_Ma_steps_6 ?_
  exact cs_iret hC hw hr hlk (congrArg (fun z => (z, M)) hf) d_Ma_steps_7
theorem d_Ma_nextAble_0 : decode prog_4_method_16_code 0 = .ok (.iload_n 1, 1) := by decide +kernel
theorem d_Ma_nextAble_1 : decode prog_4_method_16_code 1 = .ok (.istore_n 2, 1) := by decide +kernel
theorem d_Ma_nextAble_2 : decode prog_4_method_16_code 2 = .ok (.iload_n 2, 1) := by decide +kernel
theorem d_Ma_nextAble_3 : decode prog_4_method_16_code 3 = .ok (.iconst 3, 1) := by decide +kernel
theorem d_Ma_nextAble_4 : decode prog_4_method_16_code 4 = .ok (.if_icmp .ge 28, 3) := by decide +kernel
theorem d_Ma_nextAble_7 : decode prog_4_method_16_code 7 = .ok (.aload_n 0, 1) := by decide +kernel
theorem d_Ma_nextAble_8 : decode prog_4_method_16_code 8 = .ok (.iload_n 2, 1) := by decide +kernel
theorem d_Ma_nextAble_9 : decode prog_4_method_16_code 9 = .ok (.invokevirtual 70, 3) := by decide +kernel
theorem d_Ma_nextAble_12 : decode prog_4_method_16_code 12 = .ok (.ifCond .ne 14, 3) := by decide +kernel
theorem d_Ma_nextAble_15 : decode prog_4_method_16_code 15 = .ok (.aload_n 0, 1) := by decide +kernel
theorem d_Ma_nextAble_16 : decode prog_4_method_16_code 16 = .ok (.iload_n 2, 1) := by decide +kernel
theorem d_Ma_nextAble_17 : decode prog_4_method_16_code 17 = .ok (.invokevirtual 73, 3) := by decide +kernel
theorem d_Ma_nextAble_20 : decode prog_4_method_16_code 20 = .ok (.iconst (-1), 1) := by decide +kernel
theorem d_Ma_nextAble_21 : decode prog_4_method_16_code 21 = .ok (.if_icmp .ne 5, 3) := by decide +kernel
theorem d_Ma_nextAble_24 : decode prog_4_method_16_code 24 = .ok (.iload_n 2, 1) := by decide +kernel
theorem d_Ma_nextAble_25 : decode prog_4_method_16_code 25 = .ok (.ireturn, 1) := by decide +kernel
theorem d_Ma_nextAble_26 : decode prog_4_method_16_code 26 = .ok (.iinc 2 1, 3) := by decide +kernel
theorem d_Ma_nextAble_29 : decode prog_4_method_16_code 29 = .ok (.goto (-27), 3) := by decide +kernel
theorem d_Ma_nextAble_32 : decode prog_4_method_16_code 32 = .ok (.iconst 3, 1) := by decide +kernel
theorem d_Ma_nextAble_33 : decode prog_4_method_16_code 33 = .ok (.ireturn, 1) := by decide +kernel
def f_Ma_nextAble_L2 : Nat → cs_Mem → Nat → Int32 → Int32
  | 0, M, j, y2 => 0
  | fuel + 1, M, j, y2 =>
    if 3 ≤ y2 then
      3
    else
      cs_bd (f_Ma_hasEnded M j y2) fun (r3 : Int32) =>
      if r3 = 0 then
        cs_bd (f_Ma_awaited M j y2) fun (r7 : Int32) =>
        if r7 = (-1) then
          y2
        else
          cs_bd (y2 + 1) fun (z9 : Int32) =>
          f_Ma_nextAble_L2 fuel M j z9
      else
        cs_bd (y2 + 1) fun (z5 : Int32) =>
        f_Ma_nextAble_L2 fuel M j z5
def pre_Ma_nextAble_L2 : Nat → cs_Mem → Nat → Int32 → Prop
  | 0, _, _, _ => False
  | fuel + 1, M, j, y2 =>
    (3 ≤ y2 →
      True
    ) ∧ (¬ (3 ≤ y2) →
      (pre_Ma_hasEnded M j y2) ∧
      cs_bd (f_Ma_hasEnded M j y2) fun (r3 : Int32) =>
      (r3 = 0 →
        (pre_Ma_awaited M j y2) ∧
        cs_bd (f_Ma_awaited M j y2) fun (r7 : Int32) =>
        (r7 = (-1) →
          True
        ) ∧ (¬ (r7 = (-1)) →
          cs_bd (y2 + 1) fun (z9 : Int32) =>
          pre_Ma_nextAble_L2 fuel M j z9
        )
      ) ∧ (¬ (r3 = 0) →
        cs_bd (y2 + 1) fun (z5 : Int32) =>
        pre_Ma_nextAble_L2 fuel M j z5
      )
    )
def f_Ma_nextAble (M : cs_Mem) (j : Nat) (x1 : Int32) : Int32 :=
  f_Ma_nextAble_L2 5 M j x1
def pre_Ma_nextAble (M : cs_Mem) (j : Nat) (x1 : Int32) : Prop :=
  pre_Ma_nextAble_L2 5 M j x1
set_option maxHeartbeats 4000000 in
set_option maxRecDepth 100000 in
theorem w_Ma_nextAble_L2 {p : Program} {l : Launch} {e : Env} {s : State} {m : MethodId} {args : Array Value} {below : List Frame} {meth : Method} {c : Code} {D : va_G} {cA : Nat → ClassId} {A : Nat → Prop} {ad : Nat → Nat} {F : Int32} (hC : cs_Ctx p s m args c prog_4_method_16_code 3 "ClassStarter$Machine" D cA A) (hr : meth.sig.returnType = (some .int)) (hlk : meth.locks = false) (fuel : Nat) : ∀ (M : cs_Mem) (j : Nat) (y2 : Int32) (H : Heap) (locs : List Loc) (ls : Array Slot), cs_Wd D cA ad M A s H locs → lv_has ls 3 [(0, .ref (ad j)), (2, .int y2)] → cs_is 3 j → pre_Ma_nextAble_L2 fuel M j y2 → F = f_Ma_nextAble_L2 fuel M j y2 → W p l e ({ frames := 3, cells := 0, slots := 0, locals := 68 }) s m args below meth c H locs 0 0 (MQ below (cs_Qi D cA ad (F, M) A) args s 0 0 A) (F0 m 2 ls []) := by
  have hx := hC.1
  have hb := hC.2.1
  induction fuel with
  | zero =>
    intro M j y2 H locs ls hw hl g0 hp hf
    exact absurd hp (by simp [pre_Ma_nextAble_L2])
  | succ fuel ih =>
    intro M j y2 H locs ls hw hl g0 hp hf
    rw [f_Ma_nextAble_L2] at hf
    rw [pre_Ma_nextAble_L2] at hp
    refine lv_iload_n hx hb d_Ma_nextAble_2 rfl (lv_at hl 1 rfl) ?_
    refine lv_iconst (v := 3) hx hb d_Ma_nextAble_3 (by decide) ?_
    refine lv_icmp_ge (tgt := 32) hx hb d_Ma_nextAble_4 (by decide) (fun c1 => ?_) (fun c1 => ?_)
    · have hp := hp.1 c1
      have hf := hf.trans (if_pos c1)
      refine lv_iconst (v := 3) hx hb d_Ma_nextAble_32 (by decide) ?_
      exact cs_iret hC hw hr hlk (congrArg (fun z => (z, M)) hf) d_Ma_nextAble_33
    · have hp := hp.2 c1
      have hf := hf.trans (if_neg c1)
      refine lv_aload_n hx hb d_Ma_nextAble_7 rfl (lv_at hl 0 rfl) ?_
      refine lv_iload_n hx hb d_Ma_nextAble_8 rfl (lv_at hl 1 rfl) ?_
      have o2 := hp.1
      have hp := hp.2
      refine cs_ret_p hC hw (cs_runV (As := [.int y2]) (rest := []) hC hw g0.2 (ci := 3) rfl rfl (cs_sg_is g0) (c_Ma_hasEnded l D cA ad M j g0 y2 o2 _) rfl rfl cw_Ma_70 ⟨Nat.le_of_ble_eq_true rfl, Nat.le_of_ble_eq_true rfl⟩ hl.1 rfl rfl (Nat.le_of_ble_eq_true rfl) d_Ma_nextAble_9 ⟨Nat.zero_le _, Nat.zero_le _⟩) (fun r3 H locs er3 hw => ?_)
      have hp := cs_bdP er3 hp
      have hf := cs_bdE er3 hf
      refine lv_if_ne (tgt := 26) hx hb d_Ma_nextAble_12 (by decide) (fun c4 => ?_) (fun c4 => ?_)
      · have hp := hp.2 c4
        have hf := hf.trans (if_neg c4)
        obtain ⟨z5, ez5⟩ : ∃ y : Int32, y = y2 + 1 := ⟨_, rfl⟩
        have hp := cs_bdP ez5 hp
        have hf := cs_bdE ez5 hf
        refine lv_iinc (v := z5) (lv' := [(2, .int z5), (0, .ref (ad j))]) hx hb d_Ma_nextAble_26 hl (k := 1) rfl (by rw [ez5]; rfl) (by decide) rfl (fun ls hl => ?_)
        refine lv_goto (tgt := 2) hx hb d_Ma_nextAble_29 (by decide) ?_
        exact ih M j z5 _ _ ls hw (lv_sub hl [1, 0] rfl) g0 hp hf
      · have hp := hp.1 c4
        have hf := hf.trans (if_pos c4)
        refine lv_aload_n hx hb d_Ma_nextAble_15 rfl (lv_at hl 0 rfl) ?_
        refine lv_iload_n hx hb d_Ma_nextAble_16 rfl (lv_at hl 1 rfl) ?_
        have o6 := hp.1
        have hp := hp.2
        refine cs_ret_p hC hw (cs_runV (As := [.int y2]) (rest := []) hC hw g0.2 (ci := 3) rfl rfl (cs_sg_is g0) (c_Ma_awaited l D cA ad M j g0 y2 o6 _) rfl rfl cw_Ma_73 ⟨Nat.le_of_ble_eq_true rfl, Nat.le_of_ble_eq_true rfl⟩ hl.1 rfl rfl (Nat.le_of_ble_eq_true rfl) d_Ma_nextAble_17 ⟨Nat.zero_le _, Nat.zero_le _⟩) (fun r7 H locs er7 hw => ?_)
        have hp := cs_bdP er7 hp
        have hf := cs_bdE er7 hf
        refine lv_iconst (v := (-1)) hx hb d_Ma_nextAble_20 (by decide) ?_
        refine lv_icmp_ne (tgt := 26) hx hb d_Ma_nextAble_21 (by decide) (fun c8 => ?_) (fun c8 => ?_)
        · have hp := hp.2 c8
          have hf := hf.trans (if_neg c8)
          obtain ⟨z9, ez9⟩ : ∃ y : Int32, y = y2 + 1 := ⟨_, rfl⟩
          have hp := cs_bdP ez9 hp
          have hf := cs_bdE ez9 hf
          refine lv_iinc (v := z9) (lv' := [(2, .int z9), (0, .ref (ad j))]) hx hb d_Ma_nextAble_26 hl (k := 1) rfl (by rw [ez9]; rfl) (by decide) rfl (fun ls hl => ?_)
          refine lv_goto (tgt := 2) hx hb d_Ma_nextAble_29 (by decide) ?_
          exact ih M j z9 _ _ ls hw (lv_sub hl [1, 0] rfl) g0 hp hf
        · have hp := hp.1 c8
          have hf := hf.trans (if_pos c8)
          refine lv_iload_n hx hb d_Ma_nextAble_24 rfl (lv_at hl 1 rfl) ?_
          exact cs_iret hC hw hr hlk (congrArg (fun z => (z, M)) hf) d_Ma_nextAble_25
set_option maxHeartbeats 4000000 in
set_option maxRecDepth 100000 in
theorem c_Ma_nextAble (l : Launch) (D : va_G) (cA : Nat → ClassId) (ad : Nat → Nat) (M : cs_Mem) (j : Nat) (hj : cs_is 3 j) (x1 : Int32) (hp : pre_Ma_nextAble M j x1) : cs_Ci l ⟨"ClassStarter$Machine", "nextAble", "(I)I"⟩ prog_4_method_16_code 3 (some .int) ({ frames := 3, cells := 0, slots := 0, locals := 68 }) D cA ad M [.ref (ad j), .int x1] ((f_Ma_nextAble M j x1, M)) := by
  refine cs_entry (by decide) (Nat.le_of_ble_eq_true rfl) (fun p e s m below meth c A ls hC hr hlk _ hw hl => ?_)
  have hx := hC.1
  have hb := hC.2.1
  have hl : lv_has ls 3 [(0, .ref (ad j)), (1, .int x1)] := hl
  generalize hF : f_Ma_nextAble M j x1 = F
  have hf := hF.symm
  unfold f_Ma_nextAble at hf
  unfold pre_Ma_nextAble at hp
  refine lv_iload_n hx hb d_Ma_nextAble_0 rfl (lv_at hl 1 rfl) ?_
  refine lv_istore_n (lv' := [(2, .int x1), (0, .ref (ad j)), (1, .int x1)]) hx hb d_Ma_nextAble_1 rfl hl (by decide) rfl (fun ls hl => ?_)
  exact w_Ma_nextAble_L2 hC hr hlk 5 M j x1 _ _ ls hw (lv_sub hl [1, 0] rfl) hj hp hf
theorem d_Ma_lastResultOf_0 : decode prog_4_method_18_code 0 = .ok (.aload_n 0, 1) := by decide +kernel
theorem d_Ma_lastResultOf_1 : decode prog_4_method_18_code 1 = .ok (.iload_n 1, 1) := by decide +kernel
theorem d_Ma_lastResultOf_2 : decode prog_4_method_18_code 2 = .ok (.invokevirtual 70, 3) := by decide +kernel
theorem d_Ma_lastResultOf_5 : decode prog_4_method_18_code 5 = .ok (.ifCond .eq 15, 3) := by decide +kernel
theorem d_Ma_lastResultOf_8 : decode prog_4_method_18_code 8 = .ok (.aload_n 0, 1) := by decide +kernel
theorem d_Ma_lastResultOf_9 : decode prog_4_method_18_code 9 = .ok (.getfield 11, 3) := by decide +kernel
theorem d_Ma_lastResultOf_12 : decode prog_4_method_18_code 12 = .ok (.bipush 38, 2) := by decide +kernel
theorem d_Ma_lastResultOf_14 : decode prog_4_method_18_code 14 = .ok (.iload_n 1, 1) := by decide +kernel
theorem d_Ma_lastResultOf_15 : decode prog_4_method_18_code 15 = .ok (.iadd, 1) := by decide +kernel
theorem d_Ma_lastResultOf_16 : decode prog_4_method_18_code 16 = .ok (.iaload, 1) := by decide +kernel
theorem d_Ma_lastResultOf_17 : decode prog_4_method_18_code 17 = .ok (.goto 5, 3) := by decide +kernel
theorem d_Ma_lastResultOf_20 : decode prog_4_method_18_code 20 = .ok (.bipush 50, 2) := by decide +kernel
theorem d_Ma_lastResultOf_22 : decode prog_4_method_18_code 22 = .ok (.ireturn, 1) := by decide +kernel
def f_Ma_lastResultOf (M : cs_Mem) (j : Nat) (x1 : Int32) : Int32 :=
  cs_bd (f_Ma_hasEnded M j x1) fun (r2 : Int32) =>
  if r2 = 0 then
    50
  else
    M (j + 1) (38 + x1).toNatClampNeg
def pre_Ma_lastResultOf (M : cs_Mem) (j : Nat) (x1 : Int32) : Prop :=
  (pre_Ma_hasEnded M j x1) ∧
  cs_bd (f_Ma_hasEnded M j x1) fun (r2 : Int32) =>
  (r2 = 0 →
    True
  ) ∧ (¬ (r2 = 0) →
    (vp_in (38 + x1) (cs_ln M (j + 1))) ∧
    True
  )
set_option maxHeartbeats 4000000 in
set_option maxRecDepth 100000 in
theorem c_Ma_lastResultOf (l : Launch) (D : va_G) (cA : Nat → ClassId) (ad : Nat → Nat) (M : cs_Mem) (j : Nat) (hj : cs_is 3 j) (x1 : Int32) (hp : pre_Ma_lastResultOf M j x1) : cs_Ci l ⟨"ClassStarter$Machine", "lastResultOf", "(I)I"⟩ prog_4_method_18_code 2 (some .int) ({ frames := 3, cells := 0, slots := 0, locals := 63 }) D cA ad M [.ref (ad j), .int x1] ((f_Ma_lastResultOf M j x1, M)) := by
  refine cs_entry (by decide) (Nat.le_of_ble_eq_true rfl) (fun p e s m below meth c A ls hC hr hlk _ hw hl => ?_)
  have hx := hC.1
  have hb := hC.2.1
  have hl : lv_has ls 2 [(0, .ref (ad j)), (1, .int x1)] := hl
  generalize hF : f_Ma_lastResultOf M j x1 = F
  have hf := hF.symm
  unfold f_Ma_lastResultOf at hf
  unfold pre_Ma_lastResultOf at hp
  refine lv_aload_n hx hb d_Ma_lastResultOf_0 rfl (lv_at hl 0 rfl) ?_
  refine lv_iload_n hx hb d_Ma_lastResultOf_1 rfl (lv_at hl 1 rfl) ?_
  have o1 := hp.1
  have hp := hp.2
  refine cs_ret_p hC hw (cs_runV (As := [.int x1]) (rest := []) hC hw hj.2 (ci := 3) rfl rfl (cs_sg_is hj) (c_Ma_hasEnded l D cA ad M j hj x1 o1 _) rfl rfl cw_Ma_70 ⟨Nat.le_of_ble_eq_true rfl, Nat.le_of_ble_eq_true rfl⟩ hl.1 rfl rfl (Nat.le_of_ble_eq_true rfl) d_Ma_lastResultOf_2 ⟨Nat.zero_le _, Nat.zero_le _⟩) (fun r2 H locs er2 hw => ?_)
  have hp := cs_bdP er2 hp
  have hf := cs_bdE er2 hf
  refine lv_if_eq (tgt := 20) hx hb d_Ma_lastResultOf_5 (by decide) (fun c3 => ?_) (fun c3 => ?_)
  · have hp := hp.1 c3
    have hf := hf.trans (if_pos c3)
    refine lv_bipush (v := 50) hx hb d_Ma_lastResultOf_20 (by decide) ?_
    exact cs_iret hC hw hr hlk (congrArg (fun z => (z, M)) hf) d_Ma_lastResultOf_22
  · have hp := hp.2 c3
    have hf := hf.trans (if_neg c3)
    refine lv_aload_n hx hb d_Ma_lastResultOf_8 rfl (lv_at hl 0 rfl) ?_
    refine gf_Ma_cells hC hw hj wd_131 d_Ma_lastResultOf_9 ?_
    refine lv_bipush (v := 38) hx hb d_Ma_lastResultOf_12 (by decide) ?_
    refine lv_iload_n hx hb d_Ma_lastResultOf_14 rfl (lv_at hl 1 rfl) ?_
    refine lv_iadd hx hb d_Ma_lastResultOf_15 ?_
    have o4 := hp.1
    have hp := hp.2
    refine cs_iald hC hw (is_Ma1 hj) o4 d_Ma_lastResultOf_16 ?_
    refine lv_goto (tgt := 22) hx hb d_Ma_lastResultOf_17 (by decide) ?_
    exact cs_iret hC hw hr hlk (congrArg (fun z => (z, M)) hf) d_Ma_lastResultOf_22
theorem d_Ma_resultOf_0 : decode prog_4_method_17_code 0 = .ok (.aload_n 0, 1) := by decide +kernel
theorem d_Ma_resultOf_1 : decode prog_4_method_17_code 1 = .ok (.iload_n 1, 1) := by decide +kernel
theorem d_Ma_resultOf_2 : decode prog_4_method_17_code 2 = .ok (.invokevirtual 70, 3) := by decide +kernel
theorem d_Ma_resultOf_5 : decode prog_4_method_17_code 5 = .ok (.ifCond .ne 12, 3) := by decide +kernel
theorem d_Ma_resultOf_8 : decode prog_4_method_17_code 8 = .ok (.aload_n 0, 1) := by decide +kernel
theorem d_Ma_resultOf_9 : decode prog_4_method_17_code 9 = .ok (.iconst 0, 1) := by decide +kernel
theorem d_Ma_resultOf_10 : decode prog_4_method_17_code 10 = .ok (.invokevirtual 76, 3) := by decide +kernel
theorem d_Ma_resultOf_13 : decode prog_4_method_17_code 13 = .ok (.iconst 3, 1) := by decide +kernel
theorem d_Ma_resultOf_14 : decode prog_4_method_17_code 14 = .ok (.if_icmp .ne 11, 3) := by decide +kernel
theorem d_Ma_resultOf_17 : decode prog_4_method_17_code 17 = .ok (.aload_n 0, 1) := by decide +kernel
theorem d_Ma_resultOf_18 : decode prog_4_method_17_code 18 = .ok (.iload_n 1, 1) := by decide +kernel
theorem d_Ma_resultOf_19 : decode prog_4_method_17_code 19 = .ok (.invokevirtual 79, 3) := by decide +kernel
theorem d_Ma_resultOf_22 : decode prog_4_method_17_code 22 = .ok (.goto 4, 3) := by decide +kernel
theorem d_Ma_resultOf_25 : decode prog_4_method_17_code 25 = .ok (.iconst (-1), 1) := by decide +kernel
theorem d_Ma_resultOf_26 : decode prog_4_method_17_code 26 = .ok (.ireturn, 1) := by decide +kernel
def f_Ma_resultOf (M : cs_Mem) (j : Nat) (x1 : Int32) : Int32 :=
  cs_bd (f_Ma_hasEnded M j x1) fun (r2 : Int32) =>
  if r2 = 0 then
    cs_bd (f_Ma_nextAble M j 0) fun (r7 : Int32) =>
    if r7 = 3 then
      cs_bd (f_Ma_lastResultOf M j x1) fun (r10 : Int32) =>
      r10
    else
      (-1)
  else
    cs_bd (f_Ma_lastResultOf M j x1) fun (r5 : Int32) =>
    r5
def pre_Ma_resultOf (M : cs_Mem) (j : Nat) (x1 : Int32) : Prop :=
  (pre_Ma_hasEnded M j x1) ∧
  cs_bd (f_Ma_hasEnded M j x1) fun (r2 : Int32) =>
  (r2 = 0 →
    (pre_Ma_nextAble M j 0) ∧
    cs_bd (f_Ma_nextAble M j 0) fun (r7 : Int32) =>
    (r7 = 3 →
      (pre_Ma_lastResultOf M j x1) ∧
      True
    ) ∧ (¬ (r7 = 3) →
      True
    )
  ) ∧ (¬ (r2 = 0) →
    (pre_Ma_lastResultOf M j x1) ∧
    True
  )
set_option maxHeartbeats 4000000 in
set_option maxRecDepth 100000 in
theorem c_Ma_resultOf (l : Launch) (D : va_G) (cA : Nat → ClassId) (ad : Nat → Nat) (M : cs_Mem) (j : Nat) (hj : cs_is 3 j) (x1 : Int32) (hp : pre_Ma_resultOf M j x1) : cs_Ci l ⟨"ClassStarter$Machine", "resultOf", "(I)I"⟩ prog_4_method_17_code 2 (some .int) ({ frames := 4, cells := 0, slots := 0, locals := 90 }) D cA ad M [.ref (ad j), .int x1] ((f_Ma_resultOf M j x1, M)) := by
  refine cs_entry (by decide) (Nat.le_of_ble_eq_true rfl) (fun p e s m below meth c A ls hC hr hlk _ hw hl => ?_)
  have hx := hC.1
  have hb := hC.2.1
  have hl : lv_has ls 2 [(0, .ref (ad j)), (1, .int x1)] := hl
  generalize hF : f_Ma_resultOf M j x1 = F
  have hf := hF.symm
  unfold f_Ma_resultOf at hf
  unfold pre_Ma_resultOf at hp
  refine lv_aload_n hx hb d_Ma_resultOf_0 rfl (lv_at hl 0 rfl) ?_
  refine lv_iload_n hx hb d_Ma_resultOf_1 rfl (lv_at hl 1 rfl) ?_
  have o1 := hp.1
  have hp := hp.2
  refine cs_ret_p hC hw (cs_runV (As := [.int x1]) (rest := []) hC hw hj.2 (ci := 3) rfl rfl (cs_sg_is hj) (c_Ma_hasEnded l D cA ad M j hj x1 o1 _) rfl rfl cw_Ma_70 ⟨Nat.le_of_ble_eq_true rfl, Nat.le_of_ble_eq_true rfl⟩ hl.1 rfl rfl (Nat.le_of_ble_eq_true rfl) d_Ma_resultOf_2 ⟨Nat.zero_le _, Nat.zero_le _⟩) (fun r2 H locs er2 hw => ?_)
  have hp := cs_bdP er2 hp
  have hf := cs_bdE er2 hf
  refine lv_if_ne (tgt := 17) hx hb d_Ma_resultOf_5 (by decide) (fun c3 => ?_) (fun c3 => ?_)
  · have hp := hp.2 c3
    have hf := hf.trans (if_neg c3)
    refine lv_aload_n hx hb d_Ma_resultOf_17 rfl (lv_at hl 0 rfl) ?_
    refine lv_iload_n hx hb d_Ma_resultOf_18 rfl (lv_at hl 1 rfl) ?_
    have o4 := hp.1
    have hp := hp.2
    refine cs_ret_p hC hw (cs_runV (As := [.int x1]) (rest := []) hC hw hj.2 (ci := 3) rfl rfl (cs_sg_is hj) (c_Ma_lastResultOf l D cA ad M j hj x1 o4 _) rfl rfl cw_Ma_79 ⟨Nat.le_of_ble_eq_true rfl, Nat.le_of_ble_eq_true rfl⟩ hl.1 rfl rfl (Nat.le_of_ble_eq_true rfl) d_Ma_resultOf_19 ⟨Nat.zero_le _, Nat.zero_le _⟩) (fun r5 H locs er5 hw => ?_)
    have hf := cs_bdE er5 hf
    refine lv_goto (tgt := 26) hx hb d_Ma_resultOf_22 (by decide) ?_
    exact cs_iret hC hw hr hlk (congrArg (fun z => (z, M)) hf) d_Ma_resultOf_26
  · have hp := hp.1 c3
    have hf := hf.trans (if_pos c3)
    refine lv_aload_n hx hb d_Ma_resultOf_8 rfl (lv_at hl 0 rfl) ?_
    refine lv_iconst (v := 0) hx hb d_Ma_resultOf_9 (by decide) ?_
    have o6 := hp.1
    have hp := hp.2
    refine cs_ret_p hC hw (cs_runV (As := [.int 0]) (rest := []) hC hw hj.2 (ci := 3) rfl rfl (cs_sg_is hj) (c_Ma_nextAble l D cA ad M j hj 0 o6 _) rfl rfl cw_Ma_76 ⟨Nat.le_of_ble_eq_true rfl, Nat.le_of_ble_eq_true rfl⟩ hl.1 rfl rfl (Nat.le_of_ble_eq_true rfl) d_Ma_resultOf_10 ⟨Nat.zero_le _, Nat.zero_le _⟩) (fun r7 H locs er7 hw => ?_)
    have hp := cs_bdP er7 hp
    have hf := cs_bdE er7 hf
    refine lv_iconst (v := 3) hx hb d_Ma_resultOf_13 (by decide) ?_
    refine lv_icmp_ne (tgt := 25) hx hb d_Ma_resultOf_14 (by decide) (fun c8 => ?_) (fun c8 => ?_)
    · have hp := hp.2 c8
      have hf := hf.trans (if_neg c8)
      refine lv_iconst (v := (-1)) hx hb d_Ma_resultOf_25 (by decide) ?_
      exact cs_iret hC hw hr hlk (congrArg (fun z => (z, M)) hf) d_Ma_resultOf_26
    · have hp := hp.1 c8
      have hf := hf.trans (if_pos c8)
      refine lv_aload_n hx hb d_Ma_resultOf_17 rfl (lv_at hl 0 rfl) ?_
      refine lv_iload_n hx hb d_Ma_resultOf_18 rfl (lv_at hl 1 rfl) ?_
      have o9 := hp.1
      have hp := hp.2
      refine cs_ret_p hC hw (cs_runV (As := [.int x1]) (rest := []) hC hw hj.2 (ci := 3) rfl rfl (cs_sg_is hj) (c_Ma_lastResultOf l D cA ad M j hj x1 o9 _) rfl rfl cw_Ma_79 ⟨Nat.le_of_ble_eq_true rfl, Nat.le_of_ble_eq_true rfl⟩ hl.1 rfl rfl (Nat.le_of_ble_eq_true rfl) d_Ma_resultOf_19 ⟨Nat.zero_le _, Nat.zero_le _⟩) (fun r10 H locs er10 hw => ?_)
      have hf := cs_bdE er10 hf
      refine lv_goto (tgt := 26) hx hb d_Ma_resultOf_22 (by decide) ?_
      exact cs_iret hC hw hr hlk (congrArg (fun z => (z, M)) hf) d_Ma_resultOf_26
theorem d_Ma_logSize_0 : decode prog_4_method_9_code 0 = .ok (.aload_n 0, 1) := by decide +kernel
theorem d_Ma_logSize_1 : decode prog_4_method_9_code 1 = .ok (.getfield 11, 3) := by decide +kernel
theorem d_Ma_logSize_4 : decode prog_4_method_9_code 4 = .ok (.bipush 42, 2) := by decide +kernel
theorem d_Ma_logSize_6 : decode prog_4_method_9_code 6 = .ok (.iaload, 1) := by decide +kernel
theorem d_Ma_logSize_7 : decode prog_4_method_9_code 7 = .ok (.ireturn, 1) := by decide +kernel
def f_Ma_logSize (M : cs_Mem) (j : Nat) : Int32 :=
  M (j + 1) 42
def pre_Ma_logSize (M : cs_Mem) (j : Nat) : Prop :=
  (vp_in 42 (cs_ln M (j + 1))) ∧
  True
set_option maxHeartbeats 4000000 in
set_option maxRecDepth 100000 in
theorem c_Ma_logSize (l : Launch) (D : va_G) (cA : Nat → ClassId) (ad : Nat → Nat) (M : cs_Mem) (j : Nat) (hj : cs_is 3 j) (hp : pre_Ma_logSize M j) : cs_Ci l ⟨"ClassStarter$Machine", "logSize", "()I"⟩ prog_4_method_9_code 1 (some .int) ({ frames := 0, cells := 0, slots := 0, locals := 0 }) D cA ad M [.ref (ad j)] ((f_Ma_logSize M j, M)) := by
  refine cs_entry (by decide) (Nat.le_of_ble_eq_true rfl) (fun p e s m below meth c A ls hC hr hlk _ hw hl => ?_)
  have hx := hC.1
  have hb := hC.2.1
  have hl : lv_has ls 1 [(0, .ref (ad j))] := hl
  generalize hF : f_Ma_logSize M j = F
  have hf := hF.symm
  unfold f_Ma_logSize at hf
  unfold pre_Ma_logSize at hp
  refine lv_aload_n hx hb d_Ma_logSize_0 rfl (lv_at hl 0 rfl) ?_
  refine gf_Ma_cells hC hw hj wd_131 d_Ma_logSize_1 ?_
  refine lv_bipush (v := 42) hx hb d_Ma_logSize_4 (by decide) ?_
  have o1 := hp.1
  have hp := hp.2
  refine cs_iald hC hw (is_Ma1 hj) o1 d_Ma_logSize_6 ?_
  exact cs_iret hC hw hr hlk (congrArg (fun z => (z, M)) hf) d_Ma_logSize_7
theorem d_Ma_logEntry_0 : decode prog_4_method_10_code 0 = .ok (.aload_n 0, 1) := by decide +kernel
theorem d_Ma_logEntry_1 : decode prog_4_method_10_code 1 = .ok (.getfield 15, 3) := by decide +kernel
theorem d_Ma_logEntry_4 : decode prog_4_method_10_code 4 = .ok (.iload_n 1, 1) := by decide +kernel
theorem d_Ma_logEntry_5 : decode prog_4_method_10_code 5 = .ok (.iaload, 1) := by decide +kernel
theorem d_Ma_logEntry_6 : decode prog_4_method_10_code 6 = .ok (.ireturn, 1) := by decide +kernel
def f_Ma_logEntry (M : cs_Mem) (j : Nat) (x1 : Int32) : Int32 :=
  M (j + 2) x1.toNatClampNeg
def pre_Ma_logEntry (M : cs_Mem) (j : Nat) (x1 : Int32) : Prop :=
  (vp_in x1 (cs_ln M (j + 2))) ∧
  True
set_option maxHeartbeats 4000000 in
set_option maxRecDepth 100000 in
theorem c_Ma_logEntry (l : Launch) (D : va_G) (cA : Nat → ClassId) (ad : Nat → Nat) (M : cs_Mem) (j : Nat) (hj : cs_is 3 j) (x1 : Int32) (hp : pre_Ma_logEntry M j x1) : cs_Ci l ⟨"ClassStarter$Machine", "logEntry", "(I)I"⟩ prog_4_method_10_code 2 (some .int) ({ frames := 0, cells := 0, slots := 0, locals := 0 }) D cA ad M [.ref (ad j), .int x1] ((f_Ma_logEntry M j x1, M)) := by
  refine cs_entry (by decide) (Nat.le_of_ble_eq_true rfl) (fun p e s m below meth c A ls hC hr hlk _ hw hl => ?_)
  have hx := hC.1
  have hb := hC.2.1
  have hl : lv_has ls 2 [(0, .ref (ad j)), (1, .int x1)] := hl
  generalize hF : f_Ma_logEntry M j x1 = F
  have hf := hF.symm
  unfold f_Ma_logEntry at hf
  unfold pre_Ma_logEntry at hp
  refine lv_aload_n hx hb d_Ma_logEntry_0 rfl (lv_at hl 0 rfl) ?_
  refine gf_Ma_log hC hw hj wd_132 d_Ma_logEntry_1 ?_
  refine lv_iload_n hx hb d_Ma_logEntry_4 rfl (lv_at hl 1 rfl) ?_
  have o1 := hp.1
  have hp := hp.2
  refine cs_iald hC hw (is_Ma2 hj) o1 d_Ma_logEntry_5 ?_
  exact cs_iret hC hw hr hlk (congrArg (fun z => (z, M)) hf) d_Ma_logEntry_6
theorem d_Ma_keepIn_0 : decode prog_4_method_3_code 0 = .ok (.aload_n 0, 1) := by decide +kernel
theorem d_Ma_keepIn_1 : decode prog_4_method_3_code 1 = .ok (.getfield 11, 3) := by decide +kernel
theorem d_Ma_keepIn_4 : decode prog_4_method_3_code 4 = .ok (.iconst 0, 1) := by decide +kernel
theorem d_Ma_keepIn_5 : decode prog_4_method_3_code 5 = .ok (.aload_n 1, 1) := by decide +kernel
theorem d_Ma_keepIn_6 : decode prog_4_method_3_code 6 = .ok (.iload_n 2, 1) := by decide +kernel
theorem d_Ma_keepIn_7 : decode prog_4_method_3_code 7 = .ok (.bipush 43, 2) := by decide +kernel
theorem d_Ma_keepIn_9 : decode prog_4_method_3_code 9 = .ok (.invokestatic 31, 3) := by decide +kernel
theorem d_Ma_keepIn_12 : decode prog_4_method_3_code 12 = .ok (.return_, 1) := by decide +kernel
def f_Ma_keepIn (M : cs_Mem) (j : Nat) (x1 : Nat) (x2 : Int32) : cs_Mem :=
  cs_bd (cs_up M x1 (va_cpy (M (j + 1)) (M x1) 0 x2.toNatClampNeg 43)) fun (N6 : cs_Mem) =>
  N6
def pre_Ma_keepIn (M : cs_Mem) (j : Nat) (x1 : Nat) (x2 : Int32) : Prop :=
  (¬ (0 : Int32) < 0) ∧
  (¬ (x2 : Int32) < 0) ∧
  (¬ (43 : Int32) < 0) ∧
  (0 + 43 ≤ cs_ln M (j + 1)) ∧
  (x2.toNatClampNeg + 43 ≤ cs_ln M x1) ∧
  True
set_option maxHeartbeats 4000000 in
set_option maxRecDepth 100000 in
theorem c_Ma_keepIn (l : Launch) (D : va_G) (cA : Nat → ClassId) (ad : Nat → Nat) (M : cs_Mem) (j : Nat) (hj : cs_is 3 j) (x1 : Nat) (h1 : cs_is 20 x1) (x2 : Int32) (hp : pre_Ma_keepIn M j x1 x2) : cs_Cv l ⟨"ClassStarter$Machine", "keepIn", "([II)V"⟩ prog_4_method_3_code 3 none ({ frames := 1, cells := 0, slots := 0, locals := 40 }) D cA ad M [.ref (ad j), .ref (ad x1), .int x2] (f_Ma_keepIn M j x1 x2) := by
  refine cs_entry (by decide) (Nat.le_of_ble_eq_true rfl) (fun p e s m below meth c A ls hC hr hlk _ hw hl => ?_)
  have hx := hC.1
  have hb := hC.2.1
  have hl : lv_has ls 3 [(0, .ref (ad j)), (1, .ref (ad x1)), (2, .int x2)] := hl
  generalize hF : f_Ma_keepIn M j x1 x2 = F
  have hf := hF.symm
  unfold f_Ma_keepIn at hf
  unfold pre_Ma_keepIn at hp
  refine lv_aload_n hx hb d_Ma_keepIn_0 rfl (lv_at hl 0 rfl) ?_
  refine gf_Ma_cells hC hw hj wd_131 d_Ma_keepIn_1 ?_
  refine lv_iconst (v := 0) hx hb d_Ma_keepIn_4 (by decide) ?_
  refine lv_aload_n hx hb d_Ma_keepIn_5 rfl (lv_at hl 1 rfl) ?_
  refine lv_iload_n hx hb d_Ma_keepIn_6 rfl (lv_at hl 2 rfl) ?_
  refine lv_bipush (v := 43) hx hb d_Ma_keepIn_7 (by decide) ?_
  have o1 := hp.1
  have hp := hp.2
  have o2 := hp.1
  have hp := hp.2
  have o3 := hp.1
  have hp := hp.2
  have o4 := hp.1
  have hp := hp.2
  have o5 := hp.1
  have hp := hp.2
  refine cs_icpy hC hw hl.1 (is_Ma1 hj) h1 wd_473 cs_acN cs_acS cs_acI o1 o2 o3 o4 o5 (Nat.le_of_ble_eq_true rfl) (Nat.le_of_ble_eq_true rfl) d_Ma_keepIn_9 (fun N6 H locs eN6 hw => ?_)
  have hf := cs_bdE eN6 hf
  exact cs_vret hC hw hr hlk hf d_Ma_keepIn_12
theorem d_Ma_bringBack_0 : decode prog_4_method_4_code 0 = .ok (.aload_n 1, 1) := by decide +kernel
theorem d_Ma_bringBack_1 : decode prog_4_method_4_code 1 = .ok (.iload_n 2, 1) := by decide +kernel
theorem d_Ma_bringBack_2 : decode prog_4_method_4_code 2 = .ok (.aload_n 0, 1) := by decide +kernel
theorem d_Ma_bringBack_3 : decode prog_4_method_4_code 3 = .ok (.getfield 11, 3) := by decide +kernel
theorem d_Ma_bringBack_6 : decode prog_4_method_4_code 6 = .ok (.iconst 0, 1) := by decide +kernel
theorem d_Ma_bringBack_7 : decode prog_4_method_4_code 7 = .ok (.bipush 43, 2) := by decide +kernel
theorem d_Ma_bringBack_9 : decode prog_4_method_4_code 9 = .ok (.invokestatic 31, 3) := by decide +kernel
theorem d_Ma_bringBack_12 : decode prog_4_method_4_code 12 = .ok (.return_, 1) := by decide +kernel
def f_Ma_bringBack (M : cs_Mem) (j : Nat) (x1 : Nat) (x2 : Int32) : cs_Mem :=
  cs_bd (cs_up M (j + 1) (va_cpy (M x1) (M (j + 1)) x2.toNatClampNeg 0 43)) fun (N6 : cs_Mem) =>
  N6
def pre_Ma_bringBack (M : cs_Mem) (j : Nat) (x1 : Nat) (x2 : Int32) : Prop :=
  (¬ (x2 : Int32) < 0) ∧
  (¬ (0 : Int32) < 0) ∧
  (¬ (43 : Int32) < 0) ∧
  (x2.toNatClampNeg + 43 ≤ cs_ln M x1) ∧
  (0 + 43 ≤ cs_ln M (j + 1)) ∧
  True
set_option maxHeartbeats 4000000 in
set_option maxRecDepth 100000 in
theorem c_Ma_bringBack (l : Launch) (D : va_G) (cA : Nat → ClassId) (ad : Nat → Nat) (M : cs_Mem) (j : Nat) (hj : cs_is 3 j) (x1 : Nat) (h1 : cs_is 20 x1) (x2 : Int32) (hp : pre_Ma_bringBack M j x1 x2) : cs_Cv l ⟨"ClassStarter$Machine", "bringBack", "([II)V"⟩ prog_4_method_4_code 3 none ({ frames := 1, cells := 0, slots := 0, locals := 40 }) D cA ad M [.ref (ad j), .ref (ad x1), .int x2] (f_Ma_bringBack M j x1 x2) := by
  refine cs_entry (by decide) (Nat.le_of_ble_eq_true rfl) (fun p e s m below meth c A ls hC hr hlk _ hw hl => ?_)
  have hx := hC.1
  have hb := hC.2.1
  have hl : lv_has ls 3 [(0, .ref (ad j)), (1, .ref (ad x1)), (2, .int x2)] := hl
  generalize hF : f_Ma_bringBack M j x1 x2 = F
  have hf := hF.symm
  unfold f_Ma_bringBack at hf
  unfold pre_Ma_bringBack at hp
  refine lv_aload_n hx hb d_Ma_bringBack_0 rfl (lv_at hl 1 rfl) ?_
  refine lv_iload_n hx hb d_Ma_bringBack_1 rfl (lv_at hl 2 rfl) ?_
  refine lv_aload_n hx hb d_Ma_bringBack_2 rfl (lv_at hl 0 rfl) ?_
  refine gf_Ma_cells hC hw hj wd_131 d_Ma_bringBack_3 ?_
  refine lv_iconst (v := 0) hx hb d_Ma_bringBack_6 (by decide) ?_
  refine lv_bipush (v := 43) hx hb d_Ma_bringBack_7 (by decide) ?_
  have o1 := hp.1
  have hp := hp.2
  have o2 := hp.1
  have hp := hp.2
  have o3 := hp.1
  have hp := hp.2
  have o4 := hp.1
  have hp := hp.2
  have o5 := hp.1
  have hp := hp.2
  refine cs_icpy hC hw hl.1 h1 (is_Ma1 hj) wd_473 cs_acN cs_acS cs_acI o1 o2 o3 o4 o5 (Nat.le_of_ble_eq_true rfl) (Nat.le_of_ble_eq_true rfl) d_Ma_bringBack_9 (fun N6 H locs eN6 hw => ?_)
  have hf := cs_bdE eN6 hf
  exact cs_vret hC hw hr hlk hf d_Ma_bringBack_12
