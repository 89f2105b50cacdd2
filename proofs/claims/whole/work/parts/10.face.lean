theorem d_X_changed_0 : decode prog_1_method_17_code 0 = .ok (.iload_n 1, 1) := by decide +kernel
theorem d_X_changed_1 : decode prog_1_method_17_code 1 = .ok (.iconst (-1), 1) := by decide +kernel
theorem d_X_changed_2 : decode prog_1_method_17_code 2 = .ok (.if_icmp .eq 16, 3) := by decide +kernel
theorem d_X_changed_5 : decode prog_1_method_17_code 5 = .ok (.iload_n 1, 1) := by decide +kernel
theorem d_X_changed_6 : decode prog_1_method_17_code 6 = .ok (.bipush (-2), 2) := by decide +kernel
theorem d_X_changed_8 : decode prog_1_method_17_code 8 = .ok (.if_icmp .eq 10, 3) := by decide +kernel
theorem d_X_changed_11 : decode prog_1_method_17_code 11 = .ok (.aload_n 0, 1) := by decide +kernel
theorem d_X_changed_12 : decode prog_1_method_17_code 12 = .ok (.getfield 30, 3) := by decide +kernel
theorem d_X_changed_15 : decode prog_1_method_17_code 15 = .ok (.invokevirtual 130, 3) := by decide +kernel
theorem d_X_changed_18 : decode prog_1_method_17_code 18 = .ok (.iload_n 1, 1) := by decide +kernel
theorem d_X_changed_19 : decode prog_1_method_17_code 19 = .ok (.ireturn, 1) := by decide +kernel
def f_X_changed (M : cs_Mem) (j : Nat) (x1 : Int32) : Int32 × cs_Mem :=
  if x1 = (-1) then
    (x1, M)
  else
    if x1 = (-2) then
      (x1, M)
    else
      cs_bd (f_Ex_forget M 55) fun (u3 : cs_Mem) =>
      (x1, u3)
set_option maxHeartbeats 4000000 in
set_option maxRecDepth 100000 in
theorem c_X_changed (l : Launch) (D : va_G) (cA : Nat → ClassId) (ad : Nat → Nat) (M : cs_Mem) (j : Nat) (hj : cs_is 0 j) (x1 : Int32) : cs_Ci l ⟨"ClassStarter", "changed", "(I)I"⟩ prog_1_method_17_code 2 (some .int) ({ frames := 1, cells := 0, slots := 0, locals := 20 }) D cA ad M [.ref (ad j), .int x1] (f_X_changed M j x1) := by
  refine cs_entry (by decide) (Nat.le_of_ble_eq_true rfl) (fun p e s m below meth c A ls hC hr hlk _ hw hl => ?_)
  have hx := hC.1
  have hb := hC.2.1
  have hl : lv_has ls 2 [(0, .ref (ad j)), (1, .int x1)] := hl
  generalize hF : f_X_changed M j x1 = F
  have hf := hF.symm
  unfold f_X_changed at hf
  refine lv_iload_n hx hb d_X_changed_0 rfl (lv_at hl 1 rfl) ?_
  refine lv_iconst (v := (-1)) hx hb d_X_changed_1 (by decide) ?_
  refine lv_icmp_eq (tgt := 18) hx hb d_X_changed_2 (by decide) (fun c1 => ?_) (fun c1 => ?_)
  · have hf := hf.trans (if_pos c1)
    refine lv_iload_n hx hb d_X_changed_18 rfl (lv_at hl 1 rfl) ?_
    exact cs_iret hC hw hr hlk hf d_X_changed_19
  · have hf := hf.trans (if_neg c1)
    refine lv_iload_n hx hb d_X_changed_5 rfl (lv_at hl 1 rfl) ?_
    refine lv_bipush (v := (-2)) hx hb d_X_changed_6 (by decide) ?_
    refine lv_icmp_eq (tgt := 18) hx hb d_X_changed_8 (by decide) (fun c2 => ?_) (fun c2 => ?_)
    · have hf := hf.trans (if_pos c2)
      refine lv_iload_n hx hb d_X_changed_18 rfl (lv_at hl 1 rfl) ?_
      exact cs_iret hC hw hr hlk hf d_X_changed_19
    · have hf := hf.trans (if_neg c2)
      refine lv_aload_n hx hb d_X_changed_11 rfl (lv_at hl 0 rfl) ?_
      refine gf_X_explorer hC hw hj wd_179 d_X_changed_12 ?_
      refine cs_ret_v hC hw (cs_runV (As := []) (rest := []) hC hw is_55.2 (ci := 4) rfl rfl (cs_sg_is is_55) (c_Ex_forget l D cA ad M 55 is_55 _) rfl rfl cw_X_130 ⟨Nat.le_of_ble_eq_true rfl, Nat.le_of_ble_eq_true rfl⟩ hl.1 rfl rfl (Nat.le_of_ble_eq_true rfl) d_X_changed_15 ⟨Nat.zero_le _, Nat.zero_le _⟩) (fun u3 H locs eu3 hw => ?_)
      have hf := cs_bdE eu3 hf
      refine lv_iload_n hx hb d_X_changed_18 rfl (lv_at hl 1 rfl) ?_
      exact cs_iret hC hw hr hlk hf d_X_changed_19
theorem d_X_declare_0 : decode prog_1_method_2_code 0 = .ok (.aload_n 0, 1) := by decide +kernel
theorem d_X_declare_1 : decode prog_1_method_2_code 1 = .ok (.getfield 21, 3) := by decide +kernel
theorem d_X_declare_4 : decode prog_1_method_2_code 4 = .ok (.invokevirtual 34, 3) := by decide +kernel
theorem d_X_declare_7 : decode prog_1_method_2_code 7 = .ok (.ifCond .eq 5, 3) := by decide +kernel
theorem d_X_declare_10 : decode prog_1_method_2_code 10 = .ok (.iconst (-1), 1) := by decide +kernel
theorem d_X_declare_11 : decode prog_1_method_2_code 11 = .ok (.ireturn, 1) := by decide +kernel
theorem d_X_declare_12 : decode prog_1_method_2_code 12 = .ok (.aload_n 0, 1) := by decide +kernel
theorem d_X_declare_13 : decode prog_1_method_2_code 13 = .ok (.aload_n 0, 1) := by decide +kernel
theorem d_X_declare_14 : decode prog_1_method_2_code 14 = .ok (.getfield 12, 3) := by decide +kernel
theorem d_X_declare_17 : decode prog_1_method_2_code 17 = .ok (.iload_n 1, 1) := by decide +kernel
theorem d_X_declare_18 : decode prog_1_method_2_code 18 = .ok (.iload_n 2, 1) := by decide +kernel
theorem d_X_declare_19 : decode prog_1_method_2_code 19 = .ok (.iload_n 3, 1) := by decide +kernel
theorem d_X_declare_20 : decode prog_1_method_2_code 20 = .ok (.iload 4, 2) := by decide +kernel
theorem d_X_declare_22 : decode prog_1_method_2_code 22 = .ok (.invokevirtual 38, 3) := by decide +kernel
theorem d_X_declare_25 : decode prog_1_method_2_code 25 = .ok (.invokevirtual 42, 3) := by decide +kernel
theorem d_X_declare_28 : decode prog_1_method_2_code 28 = .ok (.ireturn, 1) := by decide +kernel
def f_X_declare (M : cs_Mem) (j : Nat) (x1 : Int32) (x2 : Int32) (x3 : Int32) (x4 : Int32) : Int32 × cs_Mem :=
  cs_bd (f_Ma_hasBegun M 52) fun (r2 : Int32) =>
  if r2 = 0 then
    cs_bd (f_Pr_addClass M 1 x1 x2 x3 x4) fun (u5 : Int32 × cs_Mem) =>
    cs_bd (f_X_changed u5.2 j u5.1) fun (u6 : Int32 × cs_Mem) =>
    (u6.1, u6.2)
  else
    ((-1), M)
def pre_X_declare (M : cs_Mem) (j : Nat) (x1 : Int32) (x2 : Int32) (x3 : Int32) (x4 : Int32) : Prop :=
  (pre_Ma_hasBegun M 52) ∧
  cs_bd (f_Ma_hasBegun M 52) fun (r2 : Int32) =>
  (r2 = 0 →
    (pre_Pr_addClass M 1 x1 x2 x3 x4) ∧
    True
  ) ∧ (¬ (r2 = 0) →
    True
  )
set_option maxHeartbeats 4000000 in
set_option maxRecDepth 100000 in
theorem c_X_declare (l : Launch) (D : va_G) (cA : Nat → ClassId) (ad : Nat → Nat) (M : cs_Mem) (j : Nat) (hj : cs_is 0 j) (x1 : Int32) (x2 : Int32) (x3 : Int32) (x4 : Int32) (hp : pre_X_declare M j x1 x2 x3 x4) : cs_Ci l ⟨"ClassStarter", "declare", "(IZZI)I"⟩ prog_1_method_2_code 5 (some .int) ({ frames := 3, cells := 0, slots := 0, locals := 87 }) D cA ad M [.ref (ad j), .int x1, .int x2, .int x3, .int x4] (f_X_declare M j x1 x2 x3 x4) := by
  refine cs_entry (by decide) (Nat.le_of_ble_eq_true rfl) (fun p e s m below meth c A ls hC hr hlk _ hw hl => ?_)
  have hx := hC.1
  have hb := hC.2.1
  have hl : lv_has ls 5 [(0, .ref (ad j)), (1, .int x1), (2, .int x2), (3, .int x3), (4, .int x4)] := hl
  generalize hF : f_X_declare M j x1 x2 x3 x4 = F
  have hf := hF.symm
  unfold f_X_declare at hf
  unfold pre_X_declare at hp
  refine lv_aload_n hx hb d_X_declare_0 rfl (lv_at hl 0 rfl) ?_
  refine gf_X_machine hC hw hj wd_178 d_X_declare_1 ?_
  have o1 := hp.1
  have hp := hp.2
  refine cs_ret_p hC hw (cs_runV (As := []) (rest := []) hC hw is_52.2 (ci := 3) rfl rfl (cs_sg_is is_52) (c_Ma_hasBegun l D cA ad M 52 is_52 o1 _) rfl rfl cw_X_34 ⟨Nat.le_of_ble_eq_true rfl, Nat.le_of_ble_eq_true rfl⟩ hl.1 rfl rfl (Nat.le_of_ble_eq_true rfl) d_X_declare_4 ⟨Nat.zero_le _, Nat.zero_le _⟩) (fun r2 H locs er2 hw => ?_)
  have hp := cs_bdP er2 hp
  have hf := cs_bdE er2 hf
  refine lv_if_eq (tgt := 12) hx hb d_X_declare_7 (by decide) (fun c3 => ?_) (fun c3 => ?_)
  · have hp := hp.1 c3
    have hf := hf.trans (if_pos c3)
    refine lv_aload_n hx hb d_X_declare_12 rfl (lv_at hl 0 rfl) ?_
    refine lv_aload_n hx hb d_X_declare_13 rfl (lv_at hl 0 rfl) ?_
    refine gf_X_program hC hw hj wd_177 d_X_declare_14 ?_
    refine lv_iload_n hx hb d_X_declare_17 rfl (lv_at hl 1 rfl) ?_
    refine lv_iload_n hx hb d_X_declare_18 rfl (lv_at hl 2 rfl) ?_
    refine lv_iload_n hx hb d_X_declare_19 rfl (lv_at hl 3 rfl) ?_
    refine lv_iload hx hb d_X_declare_20 (lv_at hl 4 rfl) ?_
    have o4 := hp.1
    have hp := hp.2
    refine cs_ret_i hC hw (cs_runV (As := [.int x1, .int x2, .int x3, .int x4]) (rest := [.ref (ad j)]) hC hw is_1.2 (ci := 1) rfl rfl (cs_sg_is is_1) (c_Pr_addClass l D cA ad M 1 is_1 x1 x2 x3 x4 o4 _) rfl rfl cw_X_38 ⟨Nat.le_of_ble_eq_true rfl, Nat.le_of_ble_eq_true rfl⟩ hl.1 rfl rfl (Nat.le_of_ble_eq_true rfl) d_X_declare_22 ⟨Nat.zero_le _, Nat.zero_le _⟩) (fun u5 H locs eu5 hw => ?_)
    have hf := cs_bdE eu5 hf
    refine cs_ret_i hC hw (cs_runV (As := [.int u5.1]) (rest := []) hC hw hj.2 (ci := 0) rfl rfl (cs_sg_is hj) (c_X_changed l D cA ad u5.2 j hj u5.1 _) rfl rfl cw_X_42 ⟨Nat.le_of_ble_eq_true rfl, Nat.le_of_ble_eq_true rfl⟩ hl.1 rfl rfl (Nat.le_of_ble_eq_true rfl) d_X_declare_25 ⟨Nat.zero_le _, Nat.zero_le _⟩) (fun u6 H locs eu6 hw => ?_)
    have hf := cs_bdE eu6 hf
    exact cs_iret hC hw hr hlk hf d_X_declare_28
  · have hp := hp.2 c3
    have hf := hf.trans (if_neg c3)
    refine lv_iconst (v := (-1)) hx hb d_X_declare_10 (by decide) ?_
    exact cs_iret hC hw hr hlk hf d_X_declare_11
theorem d_X_inherit_0 : decode prog_1_method_3_code 0 = .ok (.aload_n 0, 1) := by decide +kernel
theorem d_X_inherit_1 : decode prog_1_method_3_code 1 = .ok (.getfield 21, 3) := by decide +kernel
theorem d_X_inherit_4 : decode prog_1_method_3_code 4 = .ok (.invokevirtual 34, 3) := by decide +kernel
theorem d_X_inherit_7 : decode prog_1_method_3_code 7 = .ok (.ifCond .eq 5, 3) := by decide +kernel
theorem d_X_inherit_10 : decode prog_1_method_3_code 10 = .ok (.iconst (-1), 1) := by decide +kernel
theorem d_X_inherit_11 : decode prog_1_method_3_code 11 = .ok (.ireturn, 1) := by decide +kernel
theorem d_X_inherit_12 : decode prog_1_method_3_code 12 = .ok (.aload_n 0, 1) := by decide +kernel
theorem d_X_inherit_13 : decode prog_1_method_3_code 13 = .ok (.aload_n 0, 1) := by decide +kernel
theorem d_X_inherit_14 : decode prog_1_method_3_code 14 = .ok (.getfield 12, 3) := by decide +kernel
theorem d_X_inherit_17 : decode prog_1_method_3_code 17 = .ok (.iload_n 1, 1) := by decide +kernel
theorem d_X_inherit_18 : decode prog_1_method_3_code 18 = .ok (.iload_n 2, 1) := by decide +kernel
theorem d_X_inherit_19 : decode prog_1_method_3_code 19 = .ok (.iload_n 3, 1) := by decide +kernel
theorem d_X_inherit_20 : decode prog_1_method_3_code 20 = .ok (.invokevirtual 46, 3) := by decide +kernel
theorem d_X_inherit_23 : decode prog_1_method_3_code 23 = .ok (.invokevirtual 42, 3) := by decide +kernel
theorem d_X_inherit_26 : decode prog_1_method_3_code 26 = .ok (.ireturn, 1) := by decide +kernel
def f_X_inherit (M : cs_Mem) (j : Nat) (x1 : Int32) (x2 : Int32) (x3 : Int32) : Int32 × cs_Mem :=
  cs_bd (f_Ma_hasBegun M 52) fun (r2 : Int32) =>
  if r2 = 0 then
    cs_bd (f_Pr_addInterface M 1 x1 x2 x3) fun (u5 : Int32 × cs_Mem) =>
    cs_bd (f_X_changed u5.2 j u5.1) fun (u6 : Int32 × cs_Mem) =>
    (u6.1, u6.2)
  else
    ((-1), M)
def pre_X_inherit (M : cs_Mem) (j : Nat) (x1 : Int32) (x2 : Int32) (x3 : Int32) : Prop :=
  (pre_Ma_hasBegun M 52) ∧
  cs_bd (f_Ma_hasBegun M 52) fun (r2 : Int32) =>
  (r2 = 0 →
    (pre_Pr_addInterface M 1 x1 x2 x3) ∧
    True
  ) ∧ (¬ (r2 = 0) →
    True
  )
set_option maxHeartbeats 4000000 in
set_option maxRecDepth 100000 in
theorem c_X_inherit (l : Launch) (D : va_G) (cA : Nat → ClassId) (ad : Nat → Nat) (M : cs_Mem) (j : Nat) (hj : cs_is 0 j) (x1 : Int32) (x2 : Int32) (x3 : Int32) (hp : pre_X_inherit M j x1 x2 x3) : cs_Ci l ⟨"ClassStarter", "inherit", "(IIZ)I"⟩ prog_1_method_3_code 4 (some .int) ({ frames := 3, cells := 0, slots := 0, locals := 85 }) D cA ad M [.ref (ad j), .int x1, .int x2, .int x3] (f_X_inherit M j x1 x2 x3) := by
  refine cs_entry (by decide) (Nat.le_of_ble_eq_true rfl) (fun p e s m below meth c A ls hC hr hlk _ hw hl => ?_)
  have hx := hC.1
  have hb := hC.2.1
  have hl : lv_has ls 4 [(0, .ref (ad j)), (1, .int x1), (2, .int x2), (3, .int x3)] := hl
  generalize hF : f_X_inherit M j x1 x2 x3 = F
  have hf := hF.symm
  unfold f_X_inherit at hf
  unfold pre_X_inherit at hp
  refine lv_aload_n hx hb d_X_inherit_0 rfl (lv_at hl 0 rfl) ?_
  refine gf_X_machine hC hw hj wd_178 d_X_inherit_1 ?_
  have o1 := hp.1
  have hp := hp.2
  refine cs_ret_p hC hw (cs_runV (As := []) (rest := []) hC hw is_52.2 (ci := 3) rfl rfl (cs_sg_is is_52) (c_Ma_hasBegun l D cA ad M 52 is_52 o1 _) rfl rfl cw_X_34 ⟨Nat.le_of_ble_eq_true rfl, Nat.le_of_ble_eq_true rfl⟩ hl.1 rfl rfl (Nat.le_of_ble_eq_true rfl) d_X_inherit_4 ⟨Nat.zero_le _, Nat.zero_le _⟩) (fun r2 H locs er2 hw => ?_)
  have hp := cs_bdP er2 hp
  have hf := cs_bdE er2 hf
  refine lv_if_eq (tgt := 12) hx hb d_X_inherit_7 (by decide) (fun c3 => ?_) (fun c3 => ?_)
  · have hp := hp.1 c3
    have hf := hf.trans (if_pos c3)
    refine lv_aload_n hx hb d_X_inherit_12 rfl (lv_at hl 0 rfl) ?_
    refine lv_aload_n hx hb d_X_inherit_13 rfl (lv_at hl 0 rfl) ?_
    refine gf_X_program hC hw hj wd_177 d_X_inherit_14 ?_
    refine lv_iload_n hx hb d_X_inherit_17 rfl (lv_at hl 1 rfl) ?_
    refine lv_iload_n hx hb d_X_inherit_18 rfl (lv_at hl 2 rfl) ?_
    refine lv_iload_n hx hb d_X_inherit_19 rfl (lv_at hl 3 rfl) ?_
    have o4 := hp.1
    have hp := hp.2
    refine cs_ret_i hC hw (cs_runV (As := [.int x1, .int x2, .int x3]) (rest := [.ref (ad j)]) hC hw is_1.2 (ci := 1) rfl rfl (cs_sg_is is_1) (c_Pr_addInterface l D cA ad M 1 is_1 x1 x2 x3 o4 _) rfl rfl cw_X_46 ⟨Nat.le_of_ble_eq_true rfl, Nat.le_of_ble_eq_true rfl⟩ hl.1 rfl rfl (Nat.le_of_ble_eq_true rfl) d_X_inherit_20 ⟨Nat.zero_le _, Nat.zero_le _⟩) (fun u5 H locs eu5 hw => ?_)
    have hf := cs_bdE eu5 hf
    refine cs_ret_i hC hw (cs_runV (As := [.int u5.1]) (rest := []) hC hw hj.2 (ci := 0) rfl rfl (cs_sg_is hj) (c_X_changed l D cA ad u5.2 j hj u5.1 _) rfl rfl cw_X_42 ⟨Nat.le_of_ble_eq_true rfl, Nat.le_of_ble_eq_true rfl⟩ hl.1 rfl rfl (Nat.le_of_ble_eq_true rfl) d_X_inherit_23 ⟨Nat.zero_le _, Nat.zero_le _⟩) (fun u6 H locs eu6 hw => ?_)
    have hf := cs_bdE eu6 hf
    exact cs_iret hC hw hr hlk hf d_X_inherit_26
  · have hp := hp.2 c3
    have hf := hf.trans (if_neg c3)
    refine lv_iconst (v := (-1)) hx hb d_X_inherit_10 (by decide) ?_
    exact cs_iret hC hw hr hlk hf d_X_inherit_11
theorem d_X_act_0 : decode prog_1_method_4_code 0 = .ok (.aload_n 0, 1) := by decide +kernel
theorem d_X_act_1 : decode prog_1_method_4_code 1 = .ok (.getfield 21, 3) := by decide +kernel
theorem d_X_act_4 : decode prog_1_method_4_code 4 = .ok (.invokevirtual 34, 3) := by decide +kernel
theorem d_X_act_7 : decode prog_1_method_4_code 7 = .ok (.ifCond .eq 5, 3) := by decide +kernel
theorem d_X_act_10 : decode prog_1_method_4_code 10 = .ok (.iconst (-1), 1) := by decide +kernel
theorem d_X_act_11 : decode prog_1_method_4_code 11 = .ok (.ireturn, 1) := by decide +kernel
theorem d_X_act_12 : decode prog_1_method_4_code 12 = .ok (.aload_n 0, 1) := by decide +kernel
theorem d_X_act_13 : decode prog_1_method_4_code 13 = .ok (.aload_n 0, 1) := by decide +kernel
theorem d_X_act_14 : decode prog_1_method_4_code 14 = .ok (.getfield 12, 3) := by decide +kernel
theorem d_X_act_17 : decode prog_1_method_4_code 17 = .ok (.iload_n 1, 1) := by decide +kernel
theorem d_X_act_18 : decode prog_1_method_4_code 18 = .ok (.iload_n 2, 1) := by decide +kernel
theorem d_X_act_19 : decode prog_1_method_4_code 19 = .ok (.iload_n 3, 1) := by decide +kernel
theorem d_X_act_20 : decode prog_1_method_4_code 20 = .ok (.iload 4, 2) := by decide +kernel
theorem d_X_act_22 : decode prog_1_method_4_code 22 = .ok (.invokevirtual 50, 3) := by decide +kernel
theorem d_X_act_25 : decode prog_1_method_4_code 25 = .ok (.invokevirtual 42, 3) := by decide +kernel
theorem d_X_act_28 : decode prog_1_method_4_code 28 = .ok (.ireturn, 1) := by decide +kernel
def f_X_act (M : cs_Mem) (j : Nat) (x1 : Int32) (x2 : Int32) (x3 : Int32) (x4 : Int32) : Int32 × cs_Mem :=
  cs_bd (f_Ma_hasBegun M 52) fun (r2 : Int32) =>
  if r2 = 0 then
    cs_bd (f_Pr_addAction M 1 x1 x2 x3 x4) fun (u5 : Int32 × cs_Mem) =>
    cs_bd (f_X_changed u5.2 j u5.1) fun (u6 : Int32 × cs_Mem) =>
    (u6.1, u6.2)
  else
    ((-1), M)
def pre_X_act (M : cs_Mem) (j : Nat) (x1 : Int32) (x2 : Int32) (x3 : Int32) (x4 : Int32) : Prop :=
  (pre_Ma_hasBegun M 52) ∧
  cs_bd (f_Ma_hasBegun M 52) fun (r2 : Int32) =>
  (r2 = 0 →
    (pre_Pr_addAction M 1 x1 x2 x3 x4) ∧
    True
  ) ∧ (¬ (r2 = 0) →
    True
  )
set_option maxHeartbeats 4000000 in
set_option maxRecDepth 100000 in
theorem c_X_act (l : Launch) (D : va_G) (cA : Nat → ClassId) (ad : Nat → Nat) (M : cs_Mem) (j : Nat) (hj : cs_is 0 j) (x1 : Int32) (x2 : Int32) (x3 : Int32) (x4 : Int32) (hp : pre_X_act M j x1 x2 x3 x4) : cs_Ci l ⟨"ClassStarter", "act", "(IIII)I"⟩ prog_1_method_4_code 5 (some .int) ({ frames := 3, cells := 0, slots := 0, locals := 71 }) D cA ad M [.ref (ad j), .int x1, .int x2, .int x3, .int x4] (f_X_act M j x1 x2 x3 x4) := by
  refine cs_entry (by decide) (Nat.le_of_ble_eq_true rfl) (fun p e s m below meth c A ls hC hr hlk _ hw hl => ?_)
  have hx := hC.1
  have hb := hC.2.1
  have hl : lv_has ls 5 [(0, .ref (ad j)), (1, .int x1), (2, .int x2), (3, .int x3), (4, .int x4)] := hl
  generalize hF : f_X_act M j x1 x2 x3 x4 = F
  have hf := hF.symm
  unfold f_X_act at hf
  unfold pre_X_act at hp
  refine lv_aload_n hx hb d_X_act_0 rfl (lv_at hl 0 rfl) ?_
  refine gf_X_machine hC hw hj wd_178 d_X_act_1 ?_
  have o1 := hp.1
  have hp := hp.2
  refine cs_ret_p hC hw (cs_runV (As := []) (rest := []) hC hw is_52.2 (ci := 3) rfl rfl (cs_sg_is is_52) (c_Ma_hasBegun l D cA ad M 52 is_52 o1 _) rfl rfl cw_X_34 ⟨Nat.le_of_ble_eq_true rfl, Nat.le_of_ble_eq_true rfl⟩ hl.1 rfl rfl (Nat.le_of_ble_eq_true rfl) d_X_act_4 ⟨Nat.zero_le _, Nat.zero_le _⟩) (fun r2 H locs er2 hw => ?_)
  have hp := cs_bdP er2 hp
  have hf := cs_bdE er2 hf
  refine lv_if_eq (tgt := 12) hx hb d_X_act_7 (by decide) (fun c3 => ?_) (fun c3 => ?_)
  · have hp := hp.1 c3
    have hf := hf.trans (if_pos c3)
    refine lv_aload_n hx hb d_X_act_12 rfl (lv_at hl 0 rfl) ?_
    refine lv_aload_n hx hb d_X_act_13 rfl (lv_at hl 0 rfl) ?_
    refine gf_X_program hC hw hj wd_177 d_X_act_14 ?_
    refine lv_iload_n hx hb d_X_act_17 rfl (lv_at hl 1 rfl) ?_
    refine lv_iload_n hx hb d_X_act_18 rfl (lv_at hl 2 rfl) ?_
    refine lv_iload_n hx hb d_X_act_19 rfl (lv_at hl 3 rfl) ?_
    refine lv_iload hx hb d_X_act_20 (lv_at hl 4 rfl) ?_
    have o4 := hp.1
    have hp := hp.2
    refine cs_ret_i hC hw (cs_runV (As := [.int x1, .int x2, .int x3, .int x4]) (rest := [.ref (ad j)]) hC hw is_1.2 (ci := 1) rfl rfl (cs_sg_is is_1) (c_Pr_addAction l D cA ad M 1 is_1 x1 x2 x3 x4 o4 _) rfl rfl cw_X_50 ⟨Nat.le_of_ble_eq_true rfl, Nat.le_of_ble_eq_true rfl⟩ hl.1 rfl rfl (Nat.le_of_ble_eq_true rfl) d_X_act_22 ⟨Nat.zero_le _, Nat.zero_le _⟩) (fun u5 H locs eu5 hw => ?_)
    have hf := cs_bdE eu5 hf
    refine cs_ret_i hC hw (cs_runV (As := [.int u5.1]) (rest := []) hC hw hj.2 (ci := 0) rfl rfl (cs_sg_is hj) (c_X_changed l D cA ad u5.2 j hj u5.1 _) rfl rfl cw_X_42 ⟨Nat.le_of_ble_eq_true rfl, Nat.le_of_ble_eq_true rfl⟩ hl.1 rfl rfl (Nat.le_of_ble_eq_true rfl) d_X_act_25 ⟨Nat.zero_le _, Nat.zero_le _⟩) (fun u6 H locs eu6 hw => ?_)
    have hf := cs_bdE eu6 hf
    exact cs_iret hC hw hr hlk hf d_X_act_28
  · have hp := hp.2 c3
    have hf := hf.trans (if_neg c3)
    refine lv_iconst (v := (-1)) hx hb d_X_act_10 (by decide) ?_
    exact cs_iret hC hw hr hlk hf d_X_act_11
theorem d_X_plan_0 : decode prog_1_method_5_code 0 = .ok (.aload_n 0, 1) := by decide +kernel
theorem d_X_plan_1 : decode prog_1_method_5_code 1 = .ok (.getfield 21, 3) := by decide +kernel
theorem d_X_plan_4 : decode prog_1_method_5_code 4 = .ok (.invokevirtual 34, 3) := by decide +kernel
theorem d_X_plan_7 : decode prog_1_method_5_code 7 = .ok (.ifCond .eq 5, 3) := by decide +kernel
theorem d_X_plan_10 : decode prog_1_method_5_code 10 = .ok (.iconst (-1), 1) := by decide +kernel
theorem d_X_plan_11 : decode prog_1_method_5_code 11 = .ok (.ireturn, 1) := by decide +kernel
theorem d_X_plan_12 : decode prog_1_method_5_code 12 = .ok (.aload_n 0, 1) := by decide +kernel
theorem d_X_plan_13 : decode prog_1_method_5_code 13 = .ok (.aload_n 0, 1) := by decide +kernel
theorem d_X_plan_14 : decode prog_1_method_5_code 14 = .ok (.getfield 12, 3) := by decide +kernel
theorem d_X_plan_17 : decode prog_1_method_5_code 17 = .ok (.iload_n 1, 1) := by decide +kernel
theorem d_X_plan_18 : decode prog_1_method_5_code 18 = .ok (.iload_n 2, 1) := by decide +kernel
theorem d_X_plan_19 : decode prog_1_method_5_code 19 = .ok (.iload_n 3, 1) := by decide +kernel
theorem d_X_plan_20 : decode prog_1_method_5_code 20 = .ok (.invokevirtual 54, 3) := by decide +kernel
theorem d_X_plan_23 : decode prog_1_method_5_code 23 = .ok (.invokevirtual 42, 3) := by decide +kernel
theorem d_X_plan_26 : decode prog_1_method_5_code 26 = .ok (.ireturn, 1) := by decide +kernel
def f_X_plan (M : cs_Mem) (j : Nat) (x1 : Int32) (x2 : Int32) (x3 : Int32) : Int32 × cs_Mem :=
  cs_bd (f_Ma_hasBegun M 52) fun (r2 : Int32) =>
  if r2 = 0 then
    cs_bd (f_Pr_addPlanned M 1 x1 x2 x3) fun (u5 : Int32 × cs_Mem) =>
    cs_bd (f_X_changed u5.2 j u5.1) fun (u6 : Int32 × cs_Mem) =>
    (u6.1, u6.2)
  else
    ((-1), M)
def pre_X_plan (M : cs_Mem) (j : Nat) (x1 : Int32) (x2 : Int32) (x3 : Int32) : Prop :=
  (pre_Ma_hasBegun M 52) ∧
  cs_bd (f_Ma_hasBegun M 52) fun (r2 : Int32) =>
  (r2 = 0 →
    (pre_Pr_addPlanned M 1 x1 x2 x3) ∧
    True
  ) ∧ (¬ (r2 = 0) →
    True
  )
set_option maxHeartbeats 4000000 in
set_option maxRecDepth 100000 in
theorem c_X_plan (l : Launch) (D : va_G) (cA : Nat → ClassId) (ad : Nat → Nat) (M : cs_Mem) (j : Nat) (hj : cs_is 0 j) (x1 : Int32) (x2 : Int32) (x3 : Int32) (hp : pre_X_plan M j x1 x2 x3) : cs_Ci l ⟨"ClassStarter", "plan", "(III)I"⟩ prog_1_method_5_code 4 (some .int) ({ frames := 3, cells := 0, slots := 0, locals := 71 }) D cA ad M [.ref (ad j), .int x1, .int x2, .int x3] (f_X_plan M j x1 x2 x3) := by
  refine cs_entry (by decide) (Nat.le_of_ble_eq_true rfl) (fun p e s m below meth c A ls hC hr hlk _ hw hl => ?_)
  have hx := hC.1
  have hb := hC.2.1
  have hl : lv_has ls 4 [(0, .ref (ad j)), (1, .int x1), (2, .int x2), (3, .int x3)] := hl
  generalize hF : f_X_plan M j x1 x2 x3 = F
  have hf := hF.symm
  unfold f_X_plan at hf
  unfold pre_X_plan at hp
  refine lv_aload_n hx hb d_X_plan_0 rfl (lv_at hl 0 rfl) ?_
  refine gf_X_machine hC hw hj wd_178 d_X_plan_1 ?_
  have o1 := hp.1
  have hp := hp.2
  refine cs_ret_p hC hw (cs_runV (As := []) (rest := []) hC hw is_52.2 (ci := 3) rfl rfl (cs_sg_is is_52) (c_Ma_hasBegun l D cA ad M 52 is_52 o1 _) rfl rfl cw_X_34 ⟨Nat.le_of_ble_eq_true rfl, Nat.le_of_ble_eq_true rfl⟩ hl.1 rfl rfl (Nat.le_of_ble_eq_true rfl) d_X_plan_4 ⟨Nat.zero_le _, Nat.zero_le _⟩) (fun r2 H locs er2 hw => ?_)
  have hp := cs_bdP er2 hp
  have hf := cs_bdE er2 hf
  refine lv_if_eq (tgt := 12) hx hb d_X_plan_7 (by decide) (fun c3 => ?_) (fun c3 => ?_)
  · have hp := hp.1 c3
    have hf := hf.trans (if_pos c3)
    refine lv_aload_n hx hb d_X_plan_12 rfl (lv_at hl 0 rfl) ?_
    refine lv_aload_n hx hb d_X_plan_13 rfl (lv_at hl 0 rfl) ?_
    refine gf_X_program hC hw hj wd_177 d_X_plan_14 ?_
    refine lv_iload_n hx hb d_X_plan_17 rfl (lv_at hl 1 rfl) ?_
    refine lv_iload_n hx hb d_X_plan_18 rfl (lv_at hl 2 rfl) ?_
    refine lv_iload_n hx hb d_X_plan_19 rfl (lv_at hl 3 rfl) ?_
    have o4 := hp.1
    have hp := hp.2
    refine cs_ret_i hC hw (cs_runV (As := [.int x1, .int x2, .int x3]) (rest := [.ref (ad j)]) hC hw is_1.2 (ci := 1) rfl rfl (cs_sg_is is_1) (c_Pr_addPlanned l D cA ad M 1 is_1 x1 x2 x3 o4 _) rfl rfl cw_X_54 ⟨Nat.le_of_ble_eq_true rfl, Nat.le_of_ble_eq_true rfl⟩ hl.1 rfl rfl (Nat.le_of_ble_eq_true rfl) d_X_plan_20 ⟨Nat.zero_le _, Nat.zero_le _⟩) (fun u5 H locs eu5 hw => ?_)
    have hf := cs_bdE eu5 hf
    refine cs_ret_i hC hw (cs_runV (As := [.int u5.1]) (rest := []) hC hw hj.2 (ci := 0) rfl rfl (cs_sg_is hj) (c_X_changed l D cA ad u5.2 j hj u5.1 _) rfl rfl cw_X_42 ⟨Nat.le_of_ble_eq_true rfl, Nat.le_of_ble_eq_true rfl⟩ hl.1 rfl rfl (Nat.le_of_ble_eq_true rfl) d_X_plan_23 ⟨Nat.zero_le _, Nat.zero_le _⟩) (fun u6 H locs eu6 hw => ?_)
    have hf := cs_bdE eu6 hf
    exact cs_iret hC hw hr hlk hf d_X_plan_26
  · have hp := hp.2 c3
    have hf := hf.trans (if_neg c3)
    refine lv_iconst (v := (-1)) hx hb d_X_plan_10 (by decide) ?_
    exact cs_iret hC hw hr hlk hf d_X_plan_11
theorem d_X_step_0 : decode prog_1_method_6_code 0 = .ok (.iload_n 1, 1) := by decide +kernel
theorem d_X_step_1 : decode prog_1_method_6_code 1 = .ok (.invokestatic 58, 3) := by decide +kernel
theorem d_X_step_4 : decode prog_1_method_6_code 4 = .ok (.ifCond .eq 14, 3) := by decide +kernel
theorem d_X_step_7 : decode prog_1_method_6_code 7 = .ok (.aload_n 0, 1) := by decide +kernel
theorem d_X_step_8 : decode prog_1_method_6_code 8 = .ok (.getfield 21, 3) := by decide +kernel
theorem d_X_step_11 : decode prog_1_method_6_code 11 = .ok (.iload_n 1, 1) := by decide +kernel
theorem d_X_step_12 : decode prog_1_method_6_code 12 = .ok (.invokevirtual 62, 3) := by decide +kernel
theorem d_X_step_15 : decode prog_1_method_6_code 15 = .ok (.ifCond .eq 5, 3) := by decide +kernel
theorem d_X_step_18 : decode prog_1_method_6_code 18 = .ok (.iconst (-1), 1) := by decide +kernel
theorem d_X_step_19 : decode prog_1_method_6_code 19 = .ok (.ireturn, 1) := by decide +kernel
theorem d_X_step_20 : decode prog_1_method_6_code 20 = .ok (.aload_n 0, 1) := by decide +kernel
theorem d_X_step_21 : decode prog_1_method_6_code 21 = .ok (.getfield 21, 3) := by decide +kernel
theorem d_X_step_24 : decode prog_1_method_6_code 24 = .ok (.iload_n 1, 1) := by decide +kernel
theorem d_X_step_25 : decode prog_1_method_6_code 25 = .ok (.invokevirtual 65, 3) := by decide +kernel
theorem d_X_step_28 : decode prog_1_method_6_code 28 = .ok (.iconst (-1), 1) := by decide +kernel
theorem d_X_step_29 : decode prog_1_method_6_code 29 = .ok (.if_icmp .eq 5, 3) := by decide +kernel
theorem d_X_step_32 : decode prog_1_method_6_code 32 = .ok (.iconst 0, 1) := by decide +kernel
theorem d_X_step_33 : decode prog_1_method_6_code 33 = .ok (.ireturn, 1) := by decide +kernel
theorem d_X_step_34 : decode prog_1_method_6_code 34 = .ok (.aload_n 0, 1) := by decide +kernel
theorem d_X_step_35 : decode prog_1_method_6_code 35 = .ok (.getfield 21, 3) := by decide +kernel
theorem d_X_step_38 : decode prog_1_method_6_code 38 = .ok (.iload_n 1, 1) := by decide +kernel
theorem d_X_step_39 : decode prog_1_method_6_code 39 = .ok (.invokevirtual 68, 3) := by decide +kernel
theorem d_X_step_42 : decode prog_1_method_6_code 42 = .ok (.iconst 1, 1) := by decide +kernel
theorem d_X_step_43 : decode prog_1_method_6_code 43 = .ok (.ireturn, 1) := by decide +kernel
def f_X_step_J18 (M : cs_Mem)  : Int32 × cs_Mem :=
  ((-1), M)
def f_X_step (M : cs_Mem) (j : Nat) (x1 : Int32) : Int32 × cs_Mem :=
  cs_bd (f_X_isThread M x1) fun (r1 : Int32) =>
  if r1 = 0 then
    f_X_step_J18 M 
  else
    cs_bd (f_Ma_hasEnded M 52 x1) fun (r4 : Int32) =>
    if r4 = 0 then
      cs_bd (f_Ma_awaited M 52 x1) fun (r7 : Int32) =>
      if r7 = (-1) then
        cs_bd (f_Ma_advance M 52 x1) fun (u10 : cs_Mem) =>
        (1, u10)
      else
        (0, M)
    else
      f_X_step_J18 M 
def pre_X_step (M : cs_Mem) (j : Nat) (x1 : Int32) : Prop :=
  cs_bd (f_X_isThread M x1) fun (r1 : Int32) =>
  (r1 = 0 →
    True
  ) ∧ (¬ (r1 = 0) →
    (pre_Ma_hasEnded M 52 x1) ∧
    cs_bd (f_Ma_hasEnded M 52 x1) fun (r4 : Int32) =>
    (r4 = 0 →
      (pre_Ma_awaited M 52 x1) ∧
      cs_bd (f_Ma_awaited M 52 x1) fun (r7 : Int32) =>
      (r7 = (-1) →
        (pre_Ma_advance M 52 x1) ∧
        True
      ) ∧ (¬ (r7 = (-1)) →
        True
      )
    ) ∧ (¬ (r4 = 0) →
      True
    )
  )
set_option maxHeartbeats 4000000 in
set_option maxRecDepth 100000 in
theorem w_X_step_J18 {p : Program} {l : Launch} {e : Env} {s : State} {m : MethodId} {args : Array Value} {below : List Frame} {meth : Method} {c : Code} {D : va_G} {cA : Nat → ClassId} {A : Nat → Prop} {ad : Nat → Nat} {F : Int32 × cs_Mem} (hC : cs_Ctx p s m args c prog_1_method_6_code 2 "ClassStarter" D cA A) (hr : meth.sig.returnType = (some .int)) (hlk : meth.locks = false) : ∀ (M : cs_Mem) (H : Heap) (locs : List Loc) (ls : Array Slot), cs_Wd D cA ad M A s H locs → lv_has ls 2 [] → F = f_X_step_J18 M  → W p l e ({ frames := 5, cells := 0, slots := 0, locals := 114 }) s m args below meth c H locs 0 0 (MQ below (cs_Qi D cA ad F A) args s 0 0 A) (F0 m 18 ls []) := by
  have hx := hC.1
  have hb := hC.2.1
  intro M  H locs ls hw hl  hf
  unfold f_X_step_J18 at hf
  refine lv_iconst (v := (-1)) hx hb d_X_step_18 (by decide) ?_
  exact cs_iret hC hw hr hlk hf d_X_step_19
set_option maxHeartbeats 4000000 in
set_option maxRecDepth 100000 in
theorem c_X_step (l : Launch) (D : va_G) (cA : Nat → ClassId) (ad : Nat → Nat) (M : cs_Mem) (j : Nat) (hj : cs_is 0 j) (x1 : Int32) (hp : pre_X_step M j x1) : cs_Ci l ⟨"ClassStarter", "step", "(I)I"⟩ prog_1_method_6_code 2 (some .int) ({ frames := 5, cells := 0, slots := 0, locals := 114 }) D cA ad M [.ref (ad j), .int x1] (f_X_step M j x1) := by
  refine cs_entry (by decide) (Nat.le_of_ble_eq_true rfl) (fun p e s m below meth c A ls hC hr hlk _ hw hl => ?_)
  have hx := hC.1
  have hb := hC.2.1
  have hl : lv_has ls 2 [(0, .ref (ad j)), (1, .int x1)] := hl
  generalize hF : f_X_step M j x1 = F
  have hf := hF.symm
  unfold f_X_step at hf
  unfold pre_X_step at hp
  refine lv_iload_n hx hb d_X_step_0 rfl (lv_at hl 1 rfl) ?_
  refine cs_ret_p hC hw (cs_runS (As := [.int x1]) (rest := []) hC hw (c_X_isThread l D cA ad M x1 _) rfl rfl cw_X_58 ⟨Nat.le_of_ble_eq_true rfl, Nat.le_of_ble_eq_true rfl⟩ hl.1 rfl rfl (Nat.le_of_ble_eq_true rfl) d_X_step_1 ⟨Nat.zero_le _, Nat.zero_le _⟩) (fun r1 H locs er1 hw => ?_)
  have hp := cs_bdP er1 hp
  have hf := cs_bdE er1 hf
  refine lv_if_eq (tgt := 18) hx hb d_X_step_4 (by decide) (fun c2 => ?_) (fun c2 => ?_)
  · have hp := hp.1 c2
    have hf := hf.trans (if_pos c2)
    exact w_X_step_J18 hC hr hlk M  _ _ ls hw (lv_sub hl [] rfl) hf
  · have hp := hp.2 c2
    have hf := hf.trans (if_neg c2)
    refine lv_aload_n hx hb d_X_step_7 rfl (lv_at hl 0 rfl) ?_
    refine gf_X_machine hC hw hj wd_178 d_X_step_8 ?_
    refine lv_iload_n hx hb d_X_step_11 rfl (lv_at hl 1 rfl) ?_
    have o3 := hp.1
    have hp := hp.2
    refine cs_ret_p hC hw (cs_runV (As := [.int x1]) (rest := []) hC hw is_52.2 (ci := 3) rfl rfl (cs_sg_is is_52) (c_Ma_hasEnded l D cA ad M 52 is_52 x1 o3 _) rfl rfl cw_X_62 ⟨Nat.le_of_ble_eq_true rfl, Nat.le_of_ble_eq_true rfl⟩ hl.1 rfl rfl (Nat.le_of_ble_eq_true rfl) d_X_step_12 ⟨Nat.zero_le _, Nat.zero_le _⟩) (fun r4 H locs er4 hw => ?_)
    have hp := cs_bdP er4 hp
    have hf := cs_bdE er4 hf
    refine lv_if_eq (tgt := 20) hx hb d_X_step_15 (by decide) (fun c5 => ?_) (fun c5 => ?_)
    · have hp := hp.1 c5
      have hf := hf.trans (if_pos c5)
      refine lv_aload_n hx hb d_X_step_20 rfl (lv_at hl 0 rfl) ?_
      refine gf_X_machine hC hw hj wd_178 d_X_step_21 ?_
      refine lv_iload_n hx hb d_X_step_24 rfl (lv_at hl 1 rfl) ?_
      have o6 := hp.1
      have hp := hp.2
      refine cs_ret_p hC hw (cs_runV (As := [.int x1]) (rest := []) hC hw is_52.2 (ci := 3) rfl rfl (cs_sg_is is_52) (c_Ma_awaited l D cA ad M 52 is_52 x1 o6 _) rfl rfl cw_X_65 ⟨Nat.le_of_ble_eq_true rfl, Nat.le_of_ble_eq_true rfl⟩ hl.1 rfl rfl (Nat.le_of_ble_eq_true rfl) d_X_step_25 ⟨Nat.zero_le _, Nat.zero_le _⟩) (fun r7 H locs er7 hw => ?_)
      have hp := cs_bdP er7 hp
      have hf := cs_bdE er7 hf
      refine lv_iconst (v := (-1)) hx hb d_X_step_28 (by decide) ?_
      refine lv_icmp_eq (tgt := 34) hx hb d_X_step_29 (by decide) (fun c8 => ?_) (fun c8 => ?_)
      · have hp := hp.1 c8
        have hf := hf.trans (if_pos c8)
        refine lv_aload_n hx hb d_X_step_34 rfl (lv_at hl 0 rfl) ?_
        refine gf_X_machine hC hw hj wd_178 d_X_step_35 ?_
        refine lv_iload_n hx hb d_X_step_38 rfl (lv_at hl 1 rfl) ?_
        have o9 := hp.1
        have hp := hp.2
        refine cs_ret_v hC hw (cs_runV (As := [.int x1]) (rest := []) hC hw is_52.2 (ci := 3) rfl rfl (cs_sg_is is_52) (c_Ma_advance l D cA ad M 52 is_52 x1 o9 _) rfl rfl cw_X_68 ⟨Nat.le_of_ble_eq_true rfl, Nat.le_of_ble_eq_true rfl⟩ hl.1 rfl rfl (Nat.le_of_ble_eq_true rfl) d_X_step_39 ⟨Nat.zero_le _, Nat.zero_le _⟩) (fun u10 H locs eu10 hw => ?_)
        have hf := cs_bdE eu10 hf
        refine lv_iconst (v := 1) hx hb d_X_step_42 (by decide) ?_
        exact cs_iret hC hw hr hlk hf d_X_step_43
      · have hp := hp.2 c8
        have hf := hf.trans (if_neg c8)
        refine lv_iconst (v := 0) hx hb d_X_step_32 (by decide) ?_
        exact cs_iret hC hw hr hlk hf d_X_step_33
    · have hp := hp.2 c5
      have hf := hf.trans (if_neg c5)
      exact w_X_step_J18 hC hr hlk M  _ _ ls hw (lv_sub hl [] rfl) hf
theorem d_X_reset_0 : decode prog_1_method_7_code 0 = .ok (.aload_n 0, 1) := by decide +kernel
theorem d_X_reset_1 : decode prog_1_method_7_code 1 = .ok (.getfield 21, 3) := by decide +kernel
theorem d_X_reset_4 : decode prog_1_method_7_code 4 = .ok (.invokevirtual 72, 3) := by decide +kernel
theorem d_X_reset_7 : decode prog_1_method_7_code 7 = .ok (.istore_n 1, 1) := by decide +kernel
theorem d_X_reset_8 : decode prog_1_method_7_code 8 = .ok (.aload_n 0, 1) := by decide +kernel
theorem d_X_reset_9 : decode prog_1_method_7_code 9 = .ok (.getfield 21, 3) := by decide +kernel
theorem d_X_reset_12 : decode prog_1_method_7_code 12 = .ok (.invokevirtual 76, 3) := by decide +kernel
theorem d_X_reset_15 : decode prog_1_method_7_code 15 = .ok (.iload_n 1, 1) := by decide +kernel
theorem d_X_reset_16 : decode prog_1_method_7_code 16 = .ok (.ireturn, 1) := by decide +kernel
def f_X_reset (M : cs_Mem) (j : Nat) : Int32 × cs_Mem :=
  cs_bd (f_Ma_steps M 52) fun (r2 : Int32) =>
  cs_bd (f_Ma_restart M 52) fun (u4 : cs_Mem) =>
  (r2, u4)
def pre_X_reset (M : cs_Mem) (j : Nat) : Prop :=
  (pre_Ma_steps M 52) ∧
  cs_bd (f_Ma_steps M 52) fun (r2 : Int32) =>
  (pre_Ma_restart M 52) ∧
  True
set_option maxHeartbeats 4000000 in
set_option maxRecDepth 100000 in
theorem c_X_reset (l : Launch) (D : va_G) (cA : Nat → ClassId) (ad : Nat → Nat) (M : cs_Mem) (j : Nat) (hj : cs_is 0 j) (hp : pre_X_reset M j) : cs_Ci l ⟨"ClassStarter", "reset", "()I"⟩ prog_1_method_7_code 2 (some .int) ({ frames := 2, cells := 0, slots := 0, locals := 44 }) D cA ad M [.ref (ad j)] (f_X_reset M j) := by
  refine cs_entry (by decide) (Nat.le_of_ble_eq_true rfl) (fun p e s m below meth c A ls hC hr hlk _ hw hl => ?_)
  have hx := hC.1
  have hb := hC.2.1
  have hl : lv_has ls 2 [(0, .ref (ad j))] := hl
  generalize hF : f_X_reset M j = F
  have hf := hF.symm
  unfold f_X_reset at hf
  unfold pre_X_reset at hp
  refine lv_aload_n hx hb d_X_reset_0 rfl (lv_at hl 0 rfl) ?_
  refine gf_X_machine hC hw hj wd_178 d_X_reset_1 ?_
  have o1 := hp.1
  have hp := hp.2
  refine cs_ret_p hC hw (cs_runV (As := []) (rest := []) hC hw is_52.2 (ci := 3) rfl rfl (cs_sg_is is_52) (c_Ma_steps l D cA ad M 52 is_52 o1 _) rfl rfl cw_X_72 ⟨Nat.le_of_ble_eq_true rfl, Nat.le_of_ble_eq_true rfl⟩ hl.1 rfl rfl (Nat.le_of_ble_eq_true rfl) d_X_reset_4 ⟨Nat.zero_le _, Nat.zero_le _⟩) (fun r2 H locs er2 hw => ?_)
  have hp := cs_bdP er2 hp
  have hf := cs_bdE er2 hf
  refine lv_istore_n (lv' := [(1, .int r2), (0, .ref (ad j))]) hx hb d_X_reset_7 rfl hl (by decide) rfl (fun ls hl => ?_)
  refine lv_aload_n hx hb d_X_reset_8 rfl (lv_at hl 1 rfl) ?_
  refine gf_X_machine hC hw hj wd_178 d_X_reset_9 ?_
  have o3 := hp.1
  have hp := hp.2
  refine cs_ret_v hC hw (cs_runV (As := []) (rest := []) hC hw is_52.2 (ci := 3) rfl rfl (cs_sg_is is_52) (c_Ma_restart l D cA ad M 52 is_52 o3 _) rfl rfl cw_X_76 ⟨Nat.le_of_ble_eq_true rfl, Nat.le_of_ble_eq_true rfl⟩ hl.1 rfl rfl (Nat.le_of_ble_eq_true rfl) d_X_reset_12 ⟨Nat.zero_le _, Nat.zero_le _⟩) (fun u4 H locs eu4 hw => ?_)
  have hf := cs_bdE eu4 hf
  refine lv_iload_n hx hb d_X_reset_15 rfl (lv_at hl 0 rfl) ?_
  exact cs_iret hC hw hr hlk hf d_X_reset_16
theorem d_X_state_0 : decode prog_1_method_8_code 0 = .ok (.aload_n 0, 1) := by decide +kernel
theorem d_X_state_1 : decode prog_1_method_8_code 1 = .ok (.getfield 12, 3) := by decide +kernel
theorem d_X_state_4 : decode prog_1_method_8_code 4 = .ok (.iload_n 1, 1) := by decide +kernel
theorem d_X_state_5 : decode prog_1_method_8_code 5 = .ok (.invokevirtual 79, 3) := by decide +kernel
theorem d_X_state_8 : decode prog_1_method_8_code 8 = .ok (.ifCond .eq 14, 3) := by decide +kernel
theorem d_X_state_11 : decode prog_1_method_8_code 11 = .ok (.aload_n 0, 1) := by decide +kernel
theorem d_X_state_12 : decode prog_1_method_8_code 12 = .ok (.getfield 21, 3) := by decide +kernel
theorem d_X_state_15 : decode prog_1_method_8_code 15 = .ok (.iload_n 1, 1) := by decide +kernel
theorem d_X_state_16 : decode prog_1_method_8_code 16 = .ok (.invokevirtual 82, 3) := by decide +kernel
theorem d_X_state_19 : decode prog_1_method_8_code 19 = .ok (.goto 4, 3) := by decide +kernel
theorem d_X_state_22 : decode prog_1_method_8_code 22 = .ok (.iconst (-1), 1) := by decide +kernel
theorem d_X_state_23 : decode prog_1_method_8_code 23 = .ok (.ireturn, 1) := by decide +kernel
def f_X_state (M : cs_Mem) (j : Nat) (x1 : Int32) : Int32 :=
  cs_bd (f_Pr_isDeclared M 1 x1) fun (r1 : Int32) =>
  if r1 = 0 then
    (-1)
  else
    cs_bd (f_Ma_stateOf M 52 x1) fun (r4 : Int32) =>
    r4
def pre_X_state (M : cs_Mem) (j : Nat) (x1 : Int32) : Prop :=
  cs_bd (f_Pr_isDeclared M 1 x1) fun (r1 : Int32) =>
  (r1 = 0 →
    True
  ) ∧ (¬ (r1 = 0) →
    (pre_Ma_stateOf M 52 x1) ∧
    True
  )
set_option maxHeartbeats 4000000 in
set_option maxRecDepth 100000 in
theorem c_X_state (l : Launch) (D : va_G) (cA : Nat → ClassId) (ad : Nat → Nat) (M : cs_Mem) (j : Nat) (hj : cs_is 0 j) (x1 : Int32) (hp : pre_X_state M j x1) : cs_Ci l ⟨"ClassStarter", "state", "(I)I"⟩ prog_1_method_8_code 2 (some .int) ({ frames := 1, cells := 0, slots := 0, locals := 21 }) D cA ad M [.ref (ad j), .int x1] ((f_X_state M j x1, M)) := by
  refine cs_entry (by decide) (Nat.le_of_ble_eq_true rfl) (fun p e s m below meth c A ls hC hr hlk _ hw hl => ?_)
  have hx := hC.1
  have hb := hC.2.1
  have hl : lv_has ls 2 [(0, .ref (ad j)), (1, .int x1)] := hl
  generalize hF : f_X_state M j x1 = F
  have hf := hF.symm
  unfold f_X_state at hf
  unfold pre_X_state at hp
  refine lv_aload_n hx hb d_X_state_0 rfl (lv_at hl 0 rfl) ?_
  refine gf_X_program hC hw hj wd_177 d_X_state_1 ?_
  refine lv_iload_n hx hb d_X_state_4 rfl (lv_at hl 1 rfl) ?_
  refine cs_ret_p hC hw (cs_runV (As := [.int x1]) (rest := []) hC hw is_1.2 (ci := 1) rfl rfl (cs_sg_is is_1) (c_Pr_isDeclared l D cA ad M 1 is_1 x1 _) rfl rfl cw_X_79 ⟨Nat.le_of_ble_eq_true rfl, Nat.le_of_ble_eq_true rfl⟩ hl.1 rfl rfl (Nat.le_of_ble_eq_true rfl) d_X_state_5 ⟨Nat.zero_le _, Nat.zero_le _⟩) (fun r1 H locs er1 hw => ?_)
  have hp := cs_bdP er1 hp
  have hf := cs_bdE er1 hf
  refine lv_if_eq (tgt := 22) hx hb d_X_state_8 (by decide) (fun c2 => ?_) (fun c2 => ?_)
  · have hp := hp.1 c2
    have hf := hf.trans (if_pos c2)
    refine lv_iconst (v := (-1)) hx hb d_X_state_22 (by decide) ?_
    exact cs_iret hC hw hr hlk (congrArg (fun z => (z, M)) hf) d_X_state_23
  · have hp := hp.2 c2
    have hf := hf.trans (if_neg c2)
    refine lv_aload_n hx hb d_X_state_11 rfl (lv_at hl 0 rfl) ?_
    refine gf_X_machine hC hw hj wd_178 d_X_state_12 ?_
    refine lv_iload_n hx hb d_X_state_15 rfl (lv_at hl 1 rfl) ?_
    have o3 := hp.1
    have hp := hp.2
    refine cs_ret_p hC hw (cs_runV (As := [.int x1]) (rest := []) hC hw is_52.2 (ci := 3) rfl rfl (cs_sg_is is_52) (c_Ma_stateOf l D cA ad M 52 is_52 x1 o3 _) rfl rfl cw_X_82 ⟨Nat.le_of_ble_eq_true rfl, Nat.le_of_ble_eq_true rfl⟩ hl.1 rfl rfl (Nat.le_of_ble_eq_true rfl) d_X_state_16 ⟨Nat.zero_le _, Nat.zero_le _⟩) (fun r4 H locs er4 hw => ?_)
    have hf := cs_bdE er4 hf
    refine lv_goto (tgt := 23) hx hb d_X_state_19 (by decide) ?_
    exact cs_iret hC hw hr hlk (congrArg (fun z => (z, M)) hf) d_X_state_23
theorem d_X_statics_0 : decode prog_1_method_9_code 0 = .ok (.aload_n 0, 1) := by decide +kernel
theorem d_X_statics_1 : decode prog_1_method_9_code 1 = .ok (.getfield 12, 3) := by decide +kernel
theorem d_X_statics_4 : decode prog_1_method_9_code 4 = .ok (.iload_n 1, 1) := by decide +kernel
theorem d_X_statics_5 : decode prog_1_method_9_code 5 = .ok (.invokevirtual 79, 3) := by decide +kernel
theorem d_X_statics_8 : decode prog_1_method_9_code 8 = .ok (.ifCond .eq 25, 3) := by decide +kernel
theorem d_X_statics_11 : decode prog_1_method_9_code 11 = .ok (.iload_n 2, 1) := by decide +kernel
theorem d_X_statics_12 : decode prog_1_method_9_code 12 = .ok (.ifCond .lt 21, 3) := by decide +kernel
theorem d_X_statics_15 : decode prog_1_method_9_code 15 = .ok (.iload_n 2, 1) := by decide +kernel
theorem d_X_statics_16 : decode prog_1_method_9_code 16 = .ok (.iconst 2, 1) := by decide +kernel
theorem d_X_statics_17 : decode prog_1_method_9_code 17 = .ok (.if_icmp .ge 16, 3) := by decide +kernel
theorem d_X_statics_20 : decode prog_1_method_9_code 20 = .ok (.aload_n 0, 1) := by decide +kernel
theorem d_X_statics_21 : decode prog_1_method_9_code 21 = .ok (.getfield 21, 3) := by decide +kernel
theorem d_X_statics_24 : decode prog_1_method_9_code 24 = .ok (.iload_n 1, 1) := by decide +kernel
theorem d_X_statics_25 : decode prog_1_method_9_code 25 = .ok (.iload_n 2, 1) := by decide +kernel
theorem d_X_statics_26 : decode prog_1_method_9_code 26 = .ok (.invokevirtual 85, 3) := by decide +kernel
theorem d_X_statics_29 : decode prog_1_method_9_code 29 = .ok (.i2l, 1) := by decide +kernel
theorem d_X_statics_30 : decode prog_1_method_9_code 30 = .ok (.goto 6, 3) := by decide +kernel
theorem d_X_statics_33 : decode prog_1_method_9_code 33 = .ok (.ldc2_w 89, 3) := by decide +kernel
theorem d_X_statics_36 : decode prog_1_method_9_code 36 = .ok (.lreturn, 1) := by decide +kernel
def f_X_statics (M : cs_Mem) (j : Nat) (x1 : Int32) (x2 : Int32) : Int64 :=
  cs_bd (f_Pr_isDeclared M 1 x1) fun (r1 : Int32) =>
  if r1 = 0 then
    1000000000000
  else
    if x2 < 0 then
      1000000000000
    else
      if 2 ≤ x2 then
        1000000000000
      else
        cs_bd (f_Ma_staticOf M 52 x1 x2) fun (r6 : Int32) =>
        r6.toInt64
def pre_X_statics (M : cs_Mem) (j : Nat) (x1 : Int32) (x2 : Int32) : Prop :=
  cs_bd (f_Pr_isDeclared M 1 x1) fun (r1 : Int32) =>
  (r1 = 0 →
    True
  ) ∧ (¬ (r1 = 0) →
    (x2 < 0 →
      True
    ) ∧ (¬ (x2 < 0) →
      (2 ≤ x2 →
        True
      ) ∧ (¬ (2 ≤ x2) →
        (pre_Ma_staticOf M 52 x1 x2) ∧
        True
      )
    )
  )
set_option maxHeartbeats 4000000 in
set_option maxRecDepth 100000 in
theorem c_X_statics (l : Launch) (D : va_G) (cA : Nat → ClassId) (ad : Nat → Nat) (M : cs_Mem) (j : Nat) (hj : cs_is 0 j) (x1 : Int32) (x2 : Int32) (hp : pre_X_statics M j x1 x2) : cs_Cl l ⟨"ClassStarter", "statics", "(II)J"⟩ prog_1_method_9_code 3 (some .long) ({ frames := 2, cells := 0, slots := 0, locals := 43 }) D cA ad M [.ref (ad j), .int x1, .int x2] ((f_X_statics M j x1 x2, M)) := by
  refine cs_entry (by decide) (Nat.le_of_ble_eq_true rfl) (fun p e s m below meth c A ls hC hr hlk _ hw hl => ?_)
  have hx := hC.1
  have hb := hC.2.1
  have hl : lv_has ls 3 [(0, .ref (ad j)), (1, .int x1), (2, .int x2)] := hl
  generalize hF : f_X_statics M j x1 x2 = F
  have hf := hF.symm
  unfold f_X_statics at hf
  unfold pre_X_statics at hp
  refine lv_aload_n hx hb d_X_statics_0 rfl (lv_at hl 0 rfl) ?_
  refine gf_X_program hC hw hj wd_177 d_X_statics_1 ?_
  refine lv_iload_n hx hb d_X_statics_4 rfl (lv_at hl 1 rfl) ?_
  refine cs_ret_p hC hw (cs_runV (As := [.int x1]) (rest := []) hC hw is_1.2 (ci := 1) rfl rfl (cs_sg_is is_1) (c_Pr_isDeclared l D cA ad M 1 is_1 x1 _) rfl rfl cw_X_79 ⟨Nat.le_of_ble_eq_true rfl, Nat.le_of_ble_eq_true rfl⟩ hl.1 rfl rfl (Nat.le_of_ble_eq_true rfl) d_X_statics_5 ⟨Nat.zero_le _, Nat.zero_le _⟩) (fun r1 H locs er1 hw => ?_)
  have hp := cs_bdP er1 hp
  have hf := cs_bdE er1 hf
  refine lv_if_eq (tgt := 33) hx hb d_X_statics_8 (by decide) (fun c2 => ?_) (fun c2 => ?_)
  · have hp := hp.1 c2
    have hf := hf.trans (if_pos c2)
    refine lv_ldc2 (v := 1000000000000) hx hb hC.2.2.2.1 (hC.2.2.2.2.1 _ wd_401) d_X_statics_33 ?_
    exact cs_lret hC hw hr hlk (congrArg (fun z => (z, M)) hf) d_X_statics_36
  · have hp := hp.2 c2
    have hf := hf.trans (if_neg c2)
    refine lv_iload_n hx hb d_X_statics_11 rfl (lv_at hl 2 rfl) ?_
    refine lv_if_lt (tgt := 33) hx hb d_X_statics_12 (by decide) (fun c3 => ?_) (fun c3 => ?_)
    · have hp := hp.1 c3
      have hf := hf.trans (if_pos c3)
      refine lv_ldc2 (v := 1000000000000) hx hb hC.2.2.2.1 (hC.2.2.2.2.1 _ wd_401) d_X_statics_33 ?_
      exact cs_lret hC hw hr hlk (congrArg (fun z => (z, M)) hf) d_X_statics_36
    · have hp := hp.2 c3
      have hf := hf.trans (if_neg c3)
      refine lv_iload_n hx hb d_X_statics_15 rfl (lv_at hl 2 rfl) ?_
      refine lv_iconst (v := 2) hx hb d_X_statics_16 (by decide) ?_
      refine lv_icmp_ge (tgt := 33) hx hb d_X_statics_17 (by decide) (fun c4 => ?_) (fun c4 => ?_)
      · have hp := hp.1 c4
        have hf := hf.trans (if_pos c4)
        refine lv_ldc2 (v := 1000000000000) hx hb hC.2.2.2.1 (hC.2.2.2.2.1 _ wd_401) d_X_statics_33 ?_
        exact cs_lret hC hw hr hlk (congrArg (fun z => (z, M)) hf) d_X_statics_36
      · have hp := hp.2 c4
        have hf := hf.trans (if_neg c4)
        refine lv_aload_n hx hb d_X_statics_20 rfl (lv_at hl 0 rfl) ?_
        refine gf_X_machine hC hw hj wd_178 d_X_statics_21 ?_
        refine lv_iload_n hx hb d_X_statics_24 rfl (lv_at hl 1 rfl) ?_
        refine lv_iload_n hx hb d_X_statics_25 rfl (lv_at hl 2 rfl) ?_
        have o5 := hp.1
        have hp := hp.2
        refine cs_ret_p hC hw (cs_runV (As := [.int x1, .int x2]) (rest := []) hC hw is_52.2 (ci := 3) rfl rfl (cs_sg_is is_52) (c_Ma_staticOf l D cA ad M 52 is_52 x1 x2 o5 _) rfl rfl cw_X_85 ⟨Nat.le_of_ble_eq_true rfl, Nat.le_of_ble_eq_true rfl⟩ hl.1 rfl rfl (Nat.le_of_ble_eq_true rfl) d_X_statics_26 ⟨Nat.zero_le _, Nat.zero_le _⟩) (fun r6 H locs er6 hw => ?_)
        have hf := cs_bdE er6 hf
        refine lv_i2l hx hb d_X_statics_29 rfl ?_
        refine lv_goto (tgt := 36) hx hb d_X_statics_30 (by decide) ?_
        exact cs_lret hC hw hr hlk (congrArg (fun z => (z, M)) hf) d_X_statics_36
theorem d_X_result_0 : decode prog_1_method_10_code 0 = .ok (.iload_n 1, 1) := by decide +kernel
theorem d_X_result_1 : decode prog_1_method_10_code 1 = .ok (.invokestatic 58, 3) := by decide +kernel
theorem d_X_result_4 : decode prog_1_method_10_code 4 = .ok (.ifCond .eq 14, 3) := by decide +kernel
theorem d_X_result_7 : decode prog_1_method_10_code 7 = .ok (.aload_n 0, 1) := by decide +kernel
theorem d_X_result_8 : decode prog_1_method_10_code 8 = .ok (.getfield 21, 3) := by decide +kernel
theorem d_X_result_11 : decode prog_1_method_10_code 11 = .ok (.iload_n 1, 1) := by decide +kernel
theorem d_X_result_12 : decode prog_1_method_10_code 12 = .ok (.invokevirtual 91, 3) := by decide +kernel
theorem d_X_result_15 : decode prog_1_method_10_code 15 = .ok (.goto 4, 3) := by decide +kernel
theorem d_X_result_18 : decode prog_1_method_10_code 18 = .ok (.iconst (-1), 1) := by decide +kernel
theorem d_X_result_19 : decode prog_1_method_10_code 19 = .ok (.ireturn, 1) := by decide +kernel
def f_X_result (M : cs_Mem) (j : Nat) (x1 : Int32) : Int32 :=
  cs_bd (f_X_isThread M x1) fun (r1 : Int32) =>
  if r1 = 0 then
    (-1)
  else
    cs_bd (f_Ma_resultOf M 52 x1) fun (r4 : Int32) =>
    r4
def pre_X_result (M : cs_Mem) (j : Nat) (x1 : Int32) : Prop :=
  cs_bd (f_X_isThread M x1) fun (r1 : Int32) =>
  (r1 = 0 →
    True
  ) ∧ (¬ (r1 = 0) →
    (pre_Ma_resultOf M 52 x1) ∧
    True
  )
set_option maxHeartbeats 4000000 in
set_option maxRecDepth 100000 in
theorem c_X_result (l : Launch) (D : va_G) (cA : Nat → ClassId) (ad : Nat → Nat) (M : cs_Mem) (j : Nat) (hj : cs_is 0 j) (x1 : Int32) (hp : pre_X_result M j x1) : cs_Ci l ⟨"ClassStarter", "result", "(I)I"⟩ prog_1_method_10_code 2 (some .int) ({ frames := 5, cells := 0, slots := 0, locals := 111 }) D cA ad M [.ref (ad j), .int x1] ((f_X_result M j x1, M)) := by
  refine cs_entry (by decide) (Nat.le_of_ble_eq_true rfl) (fun p e s m below meth c A ls hC hr hlk _ hw hl => ?_)
  have hx := hC.1
  have hb := hC.2.1
  have hl : lv_has ls 2 [(0, .ref (ad j)), (1, .int x1)] := hl
  generalize hF : f_X_result M j x1 = F
  have hf := hF.symm
  unfold f_X_result at hf
  unfold pre_X_result at hp
  refine lv_iload_n hx hb d_X_result_0 rfl (lv_at hl 1 rfl) ?_
  refine cs_ret_p hC hw (cs_runS (As := [.int x1]) (rest := []) hC hw (c_X_isThread l D cA ad M x1 _) rfl rfl cw_X_58 ⟨Nat.le_of_ble_eq_true rfl, Nat.le_of_ble_eq_true rfl⟩ hl.1 rfl rfl (Nat.le_of_ble_eq_true rfl) d_X_result_1 ⟨Nat.zero_le _, Nat.zero_le _⟩) (fun r1 H locs er1 hw => ?_)
  have hp := cs_bdP er1 hp
  have hf := cs_bdE er1 hf
  refine lv_if_eq (tgt := 18) hx hb d_X_result_4 (by decide) (fun c2 => ?_) (fun c2 => ?_)
  · have hp := hp.1 c2
    have hf := hf.trans (if_pos c2)
    refine lv_iconst (v := (-1)) hx hb d_X_result_18 (by decide) ?_
    exact cs_iret hC hw hr hlk (congrArg (fun z => (z, M)) hf) d_X_result_19
  · have hp := hp.2 c2
    have hf := hf.trans (if_neg c2)
    refine lv_aload_n hx hb d_X_result_7 rfl (lv_at hl 0 rfl) ?_
    refine gf_X_machine hC hw hj wd_178 d_X_result_8 ?_
    refine lv_iload_n hx hb d_X_result_11 rfl (lv_at hl 1 rfl) ?_
    have o3 := hp.1
    have hp := hp.2
    refine cs_ret_p hC hw (cs_runV (As := [.int x1]) (rest := []) hC hw is_52.2 (ci := 3) rfl rfl (cs_sg_is is_52) (c_Ma_resultOf l D cA ad M 52 is_52 x1 o3 _) rfl rfl cw_X_91 ⟨Nat.le_of_ble_eq_true rfl, Nat.le_of_ble_eq_true rfl⟩ hl.1 rfl rfl (Nat.le_of_ble_eq_true rfl) d_X_result_12 ⟨Nat.zero_le _, Nat.zero_le _⟩) (fun r4 H locs er4 hw => ?_)
    have hf := cs_bdE er4 hf
    refine lv_goto (tgt := 19) hx hb d_X_result_15 (by decide) ?_
    exact cs_iret hC hw hr hlk (congrArg (fun z => (z, M)) hf) d_X_result_19
theorem d_X_inside_0 : decode prog_1_method_11_code 0 = .ok (.iload_n 1, 1) := by decide +kernel
theorem d_X_inside_1 : decode prog_1_method_11_code 1 = .ok (.invokestatic 58, 3) := by decide +kernel
theorem d_X_inside_4 : decode prog_1_method_11_code 4 = .ok (.ifCond .eq 25, 3) := by decide +kernel
theorem d_X_inside_7 : decode prog_1_method_11_code 7 = .ok (.aload_n 0, 1) := by decide +kernel
theorem d_X_inside_8 : decode prog_1_method_11_code 8 = .ok (.getfield 21, 3) := by decide +kernel
theorem d_X_inside_11 : decode prog_1_method_11_code 11 = .ok (.iload_n 1, 1) := by decide +kernel
theorem d_X_inside_12 : decode prog_1_method_11_code 12 = .ok (.invokevirtual 94, 3) := by decide +kernel
theorem d_X_inside_15 : decode prog_1_method_11_code 15 = .ok (.ifCond .eq 14, 3) := by decide +kernel
theorem d_X_inside_18 : decode prog_1_method_11_code 18 = .ok (.aload_n 0, 1) := by decide +kernel
theorem d_X_inside_19 : decode prog_1_method_11_code 19 = .ok (.getfield 21, 3) := by decide +kernel
theorem d_X_inside_22 : decode prog_1_method_11_code 22 = .ok (.iload_n 1, 1) := by decide +kernel
theorem d_X_inside_23 : decode prog_1_method_11_code 23 = .ok (.invokevirtual 97, 3) := by decide +kernel
theorem d_X_inside_26 : decode prog_1_method_11_code 26 = .ok (.goto 4, 3) := by decide +kernel
theorem d_X_inside_29 : decode prog_1_method_11_code 29 = .ok (.iconst (-1), 1) := by decide +kernel
theorem d_X_inside_30 : decode prog_1_method_11_code 30 = .ok (.ireturn, 1) := by decide +kernel
def f_X_inside (M : cs_Mem) (j : Nat) (x1 : Int32) : Int32 :=
  cs_bd (f_X_isThread M x1) fun (r1 : Int32) =>
  if r1 = 0 then
    (-1)
  else
    cs_bd (f_Ma_isInClass M 52 x1) fun (r4 : Int32) =>
    if r4 = 0 then
      (-1)
    else
      cs_bd (f_Ma_topFrame M 52 x1) fun (r7 : Int32) =>
      r7
def pre_X_inside (M : cs_Mem) (j : Nat) (x1 : Int32) : Prop :=
  cs_bd (f_X_isThread M x1) fun (r1 : Int32) =>
  (r1 = 0 →
    True
  ) ∧ (¬ (r1 = 0) →
    (pre_Ma_isInClass M 52 x1) ∧
    cs_bd (f_Ma_isInClass M 52 x1) fun (r4 : Int32) =>
    (r4 = 0 →
      True
    ) ∧ (¬ (r4 = 0) →
      (pre_Ma_topFrame M 52 x1) ∧
      True
    )
  )
set_option maxHeartbeats 4000000 in
set_option maxRecDepth 100000 in
theorem c_X_inside (l : Launch) (D : va_G) (cA : Nat → ClassId) (ad : Nat → Nat) (M : cs_Mem) (j : Nat) (hj : cs_is 0 j) (x1 : Int32) (hp : pre_X_inside M j x1) : cs_Ci l ⟨"ClassStarter", "inside", "(I)I"⟩ prog_1_method_11_code 2 (some .int) ({ frames := 1, cells := 0, slots := 0, locals := 21 }) D cA ad M [.ref (ad j), .int x1] ((f_X_inside M j x1, M)) := by
  refine cs_entry (by decide) (Nat.le_of_ble_eq_true rfl) (fun p e s m below meth c A ls hC hr hlk _ hw hl => ?_)
  have hx := hC.1
  have hb := hC.2.1
  have hl : lv_has ls 2 [(0, .ref (ad j)), (1, .int x1)] := hl
  generalize hF : f_X_inside M j x1 = F
  have hf := hF.symm
  unfold f_X_inside at hf
  unfold pre_X_inside at hp
  refine lv_iload_n hx hb d_X_inside_0 rfl (lv_at hl 1 rfl) ?_
  refine cs_ret_p hC hw (cs_runS (As := [.int x1]) (rest := []) hC hw (c_X_isThread l D cA ad M x1 _) rfl rfl cw_X_58 ⟨Nat.le_of_ble_eq_true rfl, Nat.le_of_ble_eq_true rfl⟩ hl.1 rfl rfl (Nat.le_of_ble_eq_true rfl) d_X_inside_1 ⟨Nat.zero_le _, Nat.zero_le _⟩) (fun r1 H locs er1 hw => ?_)
  have hp := cs_bdP er1 hp
  have hf := cs_bdE er1 hf
  refine lv_if_eq (tgt := 29) hx hb d_X_inside_4 (by decide) (fun c2 => ?_) (fun c2 => ?_)
  · have hp := hp.1 c2
    have hf := hf.trans (if_pos c2)
    refine lv_iconst (v := (-1)) hx hb d_X_inside_29 (by decide) ?_
    exact cs_iret hC hw hr hlk (congrArg (fun z => (z, M)) hf) d_X_inside_30
  · have hp := hp.2 c2
    have hf := hf.trans (if_neg c2)
    refine lv_aload_n hx hb d_X_inside_7 rfl (lv_at hl 0 rfl) ?_
    refine gf_X_machine hC hw hj wd_178 d_X_inside_8 ?_
    refine lv_iload_n hx hb d_X_inside_11 rfl (lv_at hl 1 rfl) ?_
    have o3 := hp.1
    have hp := hp.2
    refine cs_ret_p hC hw (cs_runV (As := [.int x1]) (rest := []) hC hw is_52.2 (ci := 3) rfl rfl (cs_sg_is is_52) (c_Ma_isInClass l D cA ad M 52 is_52 x1 o3 _) rfl rfl cw_X_94 ⟨Nat.le_of_ble_eq_true rfl, Nat.le_of_ble_eq_true rfl⟩ hl.1 rfl rfl (Nat.le_of_ble_eq_true rfl) d_X_inside_12 ⟨Nat.zero_le _, Nat.zero_le _⟩) (fun r4 H locs er4 hw => ?_)
    have hp := cs_bdP er4 hp
    have hf := cs_bdE er4 hf
    refine lv_if_eq (tgt := 29) hx hb d_X_inside_15 (by decide) (fun c5 => ?_) (fun c5 => ?_)
    · have hp := hp.1 c5
      have hf := hf.trans (if_pos c5)
      refine lv_iconst (v := (-1)) hx hb d_X_inside_29 (by decide) ?_
      exact cs_iret hC hw hr hlk (congrArg (fun z => (z, M)) hf) d_X_inside_30
    · have hp := hp.2 c5
      have hf := hf.trans (if_neg c5)
      refine lv_aload_n hx hb d_X_inside_18 rfl (lv_at hl 0 rfl) ?_
      refine gf_X_machine hC hw hj wd_178 d_X_inside_19 ?_
      refine lv_iload_n hx hb d_X_inside_22 rfl (lv_at hl 1 rfl) ?_
      have o6 := hp.1
      have hp := hp.2
      refine cs_ret_p hC hw (cs_runV (As := [.int x1]) (rest := []) hC hw is_52.2 (ci := 3) rfl rfl (cs_sg_is is_52) (c_Ma_topFrame l D cA ad M 52 is_52 x1 o6 _) rfl rfl cw_X_97 ⟨Nat.le_of_ble_eq_true rfl, Nat.le_of_ble_eq_true rfl⟩ hl.1 rfl rfl (Nat.le_of_ble_eq_true rfl) d_X_inside_23 ⟨Nat.zero_le _, Nat.zero_le _⟩) (fun r7 H locs er7 hw => ?_)
      have hf := cs_bdE er7 hf
      refine lv_goto (tgt := 30) hx hb d_X_inside_26 (by decide) ?_
      exact cs_iret hC hw hr hlk (congrArg (fun z => (z, M)) hf) d_X_inside_30
theorem d_X_waitsFor_0 : decode prog_1_method_12_code 0 = .ok (.iload_n 1, 1) := by decide +kernel
theorem d_X_waitsFor_1 : decode prog_1_method_12_code 1 = .ok (.invokestatic 58, 3) := by decide +kernel
theorem d_X_waitsFor_4 : decode prog_1_method_12_code 4 = .ok (.ifCond .eq 14, 3) := by decide +kernel
theorem d_X_waitsFor_7 : decode prog_1_method_12_code 7 = .ok (.aload_n 0, 1) := by decide +kernel
theorem d_X_waitsFor_8 : decode prog_1_method_12_code 8 = .ok (.getfield 21, 3) := by decide +kernel
theorem d_X_waitsFor_11 : decode prog_1_method_12_code 11 = .ok (.iload_n 1, 1) := by decide +kernel
theorem d_X_waitsFor_12 : decode prog_1_method_12_code 12 = .ok (.invokevirtual 65, 3) := by decide +kernel
theorem d_X_waitsFor_15 : decode prog_1_method_12_code 15 = .ok (.goto 4, 3) := by decide +kernel
theorem d_X_waitsFor_18 : decode prog_1_method_12_code 18 = .ok (.iconst (-1), 1) := by decide +kernel
theorem d_X_waitsFor_19 : decode prog_1_method_12_code 19 = .ok (.istore_n 2, 1) := by decide +kernel
theorem d_X_waitsFor_20 : decode prog_1_method_12_code 20 = .ok (.iload_n 2, 1) := by decide +kernel
theorem d_X_waitsFor_21 : decode prog_1_method_12_code 21 = .ok (.iconst (-1), 1) := by decide +kernel
theorem d_X_waitsFor_22 : decode prog_1_method_12_code 22 = .ok (.if_icmp .ne 7, 3) := by decide +kernel
theorem d_X_waitsFor_25 : decode prog_1_method_12_code 25 = .ok (.iconst (-1), 1) := by decide +kernel
theorem d_X_waitsFor_26 : decode prog_1_method_12_code 26 = .ok (.goto 4, 3) := by decide +kernel
theorem d_X_waitsFor_29 : decode prog_1_method_12_code 29 = .ok (.iload_n 2, 1) := by decide +kernel
theorem d_X_waitsFor_30 : decode prog_1_method_12_code 30 = .ok (.ireturn, 1) := by decide +kernel
def f_X_waitsFor (M : cs_Mem) (j : Nat) (x1 : Int32) : Int32 :=
  cs_bd (f_X_isThread M x1) fun (r1 : Int32) =>
  if r1 = 0 then
    (-1)
  else
    cs_bd (f_Ma_awaited M 52 x1) fun (r5 : Int32) =>
    if r5 = (-1) then
      (-1)
    else
      r5
def pre_X_waitsFor (M : cs_Mem) (j : Nat) (x1 : Int32) : Prop :=
  cs_bd (f_X_isThread M x1) fun (r1 : Int32) =>
  (r1 = 0 →
    True
  ) ∧ (¬ (r1 = 0) →
    (pre_Ma_awaited M 52 x1) ∧
    True
  )
set_option maxHeartbeats 4000000 in
set_option maxRecDepth 100000 in
theorem c_X_waitsFor (l : Launch) (D : va_G) (cA : Nat → ClassId) (ad : Nat → Nat) (M : cs_Mem) (j : Nat) (hj : cs_is 0 j) (x1 : Int32) (hp : pre_X_waitsFor M j x1) : cs_Ci l ⟨"ClassStarter", "waitsFor", "(I)I"⟩ prog_1_method_12_code 3 (some .int) ({ frames := 3, cells := 0, slots := 0, locals := 68 }) D cA ad M [.ref (ad j), .int x1] ((f_X_waitsFor M j x1, M)) := by
  refine cs_entry (by decide) (Nat.le_of_ble_eq_true rfl) (fun p e s m below meth c A ls hC hr hlk _ hw hl => ?_)
  have hx := hC.1
  have hb := hC.2.1
  have hl : lv_has ls 3 [(0, .ref (ad j)), (1, .int x1)] := hl
  generalize hF : f_X_waitsFor M j x1 = F
  have hf := hF.symm
  unfold f_X_waitsFor at hf
  unfold pre_X_waitsFor at hp
  refine lv_iload_n hx hb d_X_waitsFor_0 rfl (lv_at hl 1 rfl) ?_
  refine cs_ret_p hC hw (cs_runS (As := [.int x1]) (rest := []) hC hw (c_X_isThread l D cA ad M x1 _) rfl rfl cw_X_58 ⟨Nat.le_of_ble_eq_true rfl, Nat.le_of_ble_eq_true rfl⟩ hl.1 rfl rfl (Nat.le_of_ble_eq_true rfl) d_X_waitsFor_1 ⟨Nat.zero_le _, Nat.zero_le _⟩) (fun r1 H locs er1 hw => ?_)
  have hp := cs_bdP er1 hp
  have hf := cs_bdE er1 hf
  refine lv_if_eq (tgt := 18) hx hb d_X_waitsFor_4 (by decide) (fun c2 => ?_) (fun c2 => ?_)
  · have hp := hp.1 c2
    have hf := hf.trans (if_pos c2)
    refine lv_iconst (v := (-1)) hx hb d_X_waitsFor_18 (by decide) ?_
    refine lv_istore_n (lv' := [(2, .int (-1)), (0, .ref (ad j)), (1, .int x1)]) hx hb d_X_waitsFor_19 rfl hl (by decide) rfl (fun ls hl => ?_)
    refine lv_iload_n hx hb d_X_waitsFor_20 rfl (lv_at hl 0 rfl) ?_
    refine lv_iconst (v := (-1)) hx hb d_X_waitsFor_21 (by decide) ?_
    refine lv_icmp_ne (tgt := 29) hx hb d_X_waitsFor_22 (by decide) (fun c3 => absurd c3 (by decide)) (fun _ => ?_)
    refine lv_iconst (v := (-1)) hx hb d_X_waitsFor_25 (by decide) ?_
    refine lv_goto (tgt := 30) hx hb d_X_waitsFor_26 (by decide) ?_
    exact cs_iret hC hw hr hlk (congrArg (fun z => (z, M)) hf) d_X_waitsFor_30
  · have hp := hp.2 c2
    have hf := hf.trans (if_neg c2)
    refine lv_aload_n hx hb d_X_waitsFor_7 rfl (lv_at hl 0 rfl) ?_
    refine gf_X_machine hC hw hj wd_178 d_X_waitsFor_8 ?_
    refine lv_iload_n hx hb d_X_waitsFor_11 rfl (lv_at hl 1 rfl) ?_
    have o4 := hp.1
    have hp := hp.2
    refine cs_ret_p hC hw (cs_runV (As := [.int x1]) (rest := []) hC hw is_52.2 (ci := 3) rfl rfl (cs_sg_is is_52) (c_Ma_awaited l D cA ad M 52 is_52 x1 o4 _) rfl rfl cw_X_65 ⟨Nat.le_of_ble_eq_true rfl, Nat.le_of_ble_eq_true rfl⟩ hl.1 rfl rfl (Nat.le_of_ble_eq_true rfl) d_X_waitsFor_12 ⟨Nat.zero_le _, Nat.zero_le _⟩) (fun r5 H locs er5 hw => ?_)
    have hf := cs_bdE er5 hf
    refine lv_goto (tgt := 19) hx hb d_X_waitsFor_15 (by decide) ?_
    refine lv_istore_n (lv' := [(2, .int r5), (0, .ref (ad j)), (1, .int x1)]) hx hb d_X_waitsFor_19 rfl hl (by decide) rfl (fun ls hl => ?_)
    refine lv_iload_n hx hb d_X_waitsFor_20 rfl (lv_at hl 0 rfl) ?_
    refine lv_iconst (v := (-1)) hx hb d_X_waitsFor_21 (by decide) ?_
    refine lv_icmp_ne (tgt := 29) hx hb d_X_waitsFor_22 (by decide) (fun c6 => ?_) (fun c6 => ?_)
    · have hf := hf.trans (if_neg c6)
      refine lv_iload_n hx hb d_X_waitsFor_29 rfl (lv_at hl 0 rfl) ?_
      exact cs_iret hC hw hr hlk (congrArg (fun z => (z, M)) hf) d_X_waitsFor_30
    · have hf := hf.trans (if_pos c6)
      refine lv_iconst (v := (-1)) hx hb d_X_waitsFor_25 (by decide) ?_
      refine lv_goto (tgt := 30) hx hb d_X_waitsFor_26 (by decide) ?_
      exact cs_iret hC hw hr hlk (congrArg (fun z => (z, M)) hf) d_X_waitsFor_30
theorem d_X_logged_0 : decode prog_1_method_13_code 0 = .ok (.iload_n 1, 1) := by decide +kernel
theorem d_X_logged_1 : decode prog_1_method_13_code 1 = .ok (.ifCond .lt 26, 3) := by decide +kernel
theorem d_X_logged_4 : decode prog_1_method_13_code 4 = .ok (.iload_n 1, 1) := by decide +kernel
theorem d_X_logged_5 : decode prog_1_method_13_code 5 = .ok (.aload_n 0, 1) := by decide +kernel
theorem d_X_logged_6 : decode prog_1_method_13_code 6 = .ok (.getfield 21, 3) := by decide +kernel
theorem d_X_logged_9 : decode prog_1_method_13_code 9 = .ok (.invokevirtual 100, 3) := by decide +kernel
theorem d_X_logged_12 : decode prog_1_method_13_code 12 = .ok (.if_icmp .ge 15, 3) := by decide +kernel
theorem d_X_logged_15 : decode prog_1_method_13_code 15 = .ok (.aload_n 0, 1) := by decide +kernel
theorem d_X_logged_16 : decode prog_1_method_13_code 16 = .ok (.getfield 21, 3) := by decide +kernel
theorem d_X_logged_19 : decode prog_1_method_13_code 19 = .ok (.iload_n 1, 1) := by decide +kernel
theorem d_X_logged_20 : decode prog_1_method_13_code 20 = .ok (.invokevirtual 103, 3) := by decide +kernel
theorem d_X_logged_23 : decode prog_1_method_13_code 23 = .ok (.i2l, 1) := by decide +kernel
theorem d_X_logged_24 : decode prog_1_method_13_code 24 = .ok (.goto 6, 3) := by decide +kernel
theorem d_X_logged_27 : decode prog_1_method_13_code 27 = .ok (.ldc2_w 89, 3) := by decide +kernel
theorem d_X_logged_30 : decode prog_1_method_13_code 30 = .ok (.lreturn, 1) := by decide +kernel
def f_X_logged (M : cs_Mem) (j : Nat) (x1 : Int32) : Int64 :=
  if x1 < 0 then
    1000000000000
  else
    cs_bd (f_Ma_logSize M 52) fun (r3 : Int32) =>
    if r3 ≤ x1 then
      1000000000000
    else
      cs_bd (f_Ma_logEntry M 52 x1) fun (r6 : Int32) =>
      r6.toInt64
def pre_X_logged (M : cs_Mem) (j : Nat) (x1 : Int32) : Prop :=
  (x1 < 0 →
    True
  ) ∧ (¬ (x1 < 0) →
    (pre_Ma_logSize M 52) ∧
    cs_bd (f_Ma_logSize M 52) fun (r3 : Int32) =>
    (r3 ≤ x1 →
      True
    ) ∧ (¬ (r3 ≤ x1) →
      (pre_Ma_logEntry M 52 x1) ∧
      True
    )
  )
set_option maxHeartbeats 4000000 in
set_option maxRecDepth 100000 in
theorem c_X_logged (l : Launch) (D : va_G) (cA : Nat → ClassId) (ad : Nat → Nat) (M : cs_Mem) (j : Nat) (hj : cs_is 0 j) (x1 : Int32) (hp : pre_X_logged M j x1) : cs_Cl l ⟨"ClassStarter", "logged", "(I)J"⟩ prog_1_method_13_code 2 (some .long) ({ frames := 1, cells := 0, slots := 0, locals := 21 }) D cA ad M [.ref (ad j), .int x1] ((f_X_logged M j x1, M)) := by
  refine cs_entry (by decide) (Nat.le_of_ble_eq_true rfl) (fun p e s m below meth c A ls hC hr hlk _ hw hl => ?_)
  have hx := hC.1
  have hb := hC.2.1
  have hl : lv_has ls 2 [(0, .ref (ad j)), (1, .int x1)] := hl
  generalize hF : f_X_logged M j x1 = F
  have hf := hF.symm
  unfold f_X_logged at hf
  unfold pre_X_logged at hp
  refine lv_iload_n hx hb d_X_logged_0 rfl (lv_at hl 1 rfl) ?_
  refine lv_if_lt (tgt := 27) hx hb d_X_logged_1 (by decide) (fun c1 => ?_) (fun c1 => ?_)
  · have hp := hp.1 c1
    have hf := hf.trans (if_pos c1)
    refine lv_ldc2 (v := 1000000000000) hx hb hC.2.2.2.1 (hC.2.2.2.2.1 _ wd_401) d_X_logged_27 ?_
    exact cs_lret hC hw hr hlk (congrArg (fun z => (z, M)) hf) d_X_logged_30
  · have hp := hp.2 c1
    have hf := hf.trans (if_neg c1)
    refine lv_iload_n hx hb d_X_logged_4 rfl (lv_at hl 1 rfl) ?_
    refine lv_aload_n hx hb d_X_logged_5 rfl (lv_at hl 0 rfl) ?_
    refine gf_X_machine hC hw hj wd_178 d_X_logged_6 ?_
    have o2 := hp.1
    have hp := hp.2
    refine cs_ret_p hC hw (cs_runV (As := []) (rest := [.int x1]) hC hw is_52.2 (ci := 3) rfl rfl (cs_sg_is is_52) (c_Ma_logSize l D cA ad M 52 is_52 o2 _) rfl rfl cw_X_100 ⟨Nat.le_of_ble_eq_true rfl, Nat.le_of_ble_eq_true rfl⟩ hl.1 rfl rfl (Nat.le_of_ble_eq_true rfl) d_X_logged_9 ⟨Nat.zero_le _, Nat.zero_le _⟩) (fun r3 H locs er3 hw => ?_)
    have hp := cs_bdP er3 hp
    have hf := cs_bdE er3 hf
    refine lv_icmp_ge (tgt := 27) hx hb d_X_logged_12 (by decide) (fun c4 => ?_) (fun c4 => ?_)
    · have hp := hp.1 c4
      have hf := hf.trans (if_pos c4)
      refine lv_ldc2 (v := 1000000000000) hx hb hC.2.2.2.1 (hC.2.2.2.2.1 _ wd_401) d_X_logged_27 ?_
      exact cs_lret hC hw hr hlk (congrArg (fun z => (z, M)) hf) d_X_logged_30
    · have hp := hp.2 c4
      have hf := hf.trans (if_neg c4)
      refine lv_aload_n hx hb d_X_logged_15 rfl (lv_at hl 0 rfl) ?_
      refine gf_X_machine hC hw hj wd_178 d_X_logged_16 ?_
      refine lv_iload_n hx hb d_X_logged_19 rfl (lv_at hl 1 rfl) ?_
      have o5 := hp.1
      have hp := hp.2
      refine cs_ret_p hC hw (cs_runV (As := [.int x1]) (rest := []) hC hw is_52.2 (ci := 3) rfl rfl (cs_sg_is is_52) (c_Ma_logEntry l D cA ad M 52 is_52 x1 o5 _) rfl rfl cw_X_103 ⟨Nat.le_of_ble_eq_true rfl, Nat.le_of_ble_eq_true rfl⟩ hl.1 rfl rfl (Nat.le_of_ble_eq_true rfl) d_X_logged_20 ⟨Nat.zero_le _, Nat.zero_le _⟩) (fun r6 H locs er6 hw => ?_)
      have hf := cs_bdE er6 hf
      refine lv_i2l hx hb d_X_logged_23 rfl ?_
      refine lv_goto (tgt := 30) hx hb d_X_logged_24 (by decide) ?_
      exact cs_lret hC hw hr hlk (congrArg (fun z => (z, M)) hf) d_X_logged_30
theorem d_X_outcome_0 : decode prog_1_method_15_code 0 = .ok (.iload_n 1, 1) := by decide +kernel
theorem d_X_outcome_1 : decode prog_1_method_15_code 1 = .ok (.ifCond .lt 26, 3) := by decide +kernel
theorem d_X_outcome_4 : decode prog_1_method_15_code 4 = .ok (.iload_n 1, 1) := by decide +kernel
theorem d_X_outcome_5 : decode prog_1_method_15_code 5 = .ok (.aload_n 0, 1) := by decide +kernel
theorem d_X_outcome_6 : decode prog_1_method_15_code 6 = .ok (.getfield 30, 3) := by decide +kernel
theorem d_X_outcome_9 : decode prog_1_method_15_code 9 = .ok (.invokevirtual 115, 3) := by decide +kernel
theorem d_X_outcome_12 : decode prog_1_method_15_code 12 = .ok (.if_icmp .ge 15, 3) := by decide +kernel
theorem d_X_outcome_15 : decode prog_1_method_15_code 15 = .ok (.aload_n 0, 1) := by decide +kernel
theorem d_X_outcome_16 : decode prog_1_method_15_code 16 = .ok (.getfield 30, 3) := by decide +kernel
theorem d_X_outcome_19 : decode prog_1_method_15_code 19 = .ok (.iload_n 1, 1) := by decide +kernel
theorem d_X_outcome_20 : decode prog_1_method_15_code 20 = .ok (.invokevirtual 118, 3) := by decide +kernel
theorem d_X_outcome_23 : decode prog_1_method_15_code 23 = .ok (.i2l, 1) := by decide +kernel
theorem d_X_outcome_24 : decode prog_1_method_15_code 24 = .ok (.goto 6, 3) := by decide +kernel
theorem d_X_outcome_27 : decode prog_1_method_15_code 27 = .ok (.ldc2_w 89, 3) := by decide +kernel
theorem d_X_outcome_30 : decode prog_1_method_15_code 30 = .ok (.lreturn, 1) := by decide +kernel
def f_X_outcome (M : cs_Mem) (j : Nat) (x1 : Int32) : Int64 :=
  if x1 < 0 then
    1000000000000
  else
    cs_bd (f_Ex_foundCount M 55) fun (r2 : Int32) =>
    if r2 ≤ x1 then
      1000000000000
    else
      cs_bd (f_Ex_foundAt M 55 x1) fun (r5 : Int32) =>
      r5.toInt64
def pre_X_outcome (M : cs_Mem) (j : Nat) (x1 : Int32) : Prop :=
  (x1 < 0 →
    True
  ) ∧ (¬ (x1 < 0) →
    cs_bd (f_Ex_foundCount M 55) fun (r2 : Int32) =>
    (r2 ≤ x1 →
      True
    ) ∧ (¬ (r2 ≤ x1) →
      (pre_Ex_foundAt M 55 x1) ∧
      True
    )
  )
set_option maxHeartbeats 4000000 in
set_option maxRecDepth 100000 in
theorem c_X_outcome (l : Launch) (D : va_G) (cA : Nat → ClassId) (ad : Nat → Nat) (M : cs_Mem) (j : Nat) (hj : cs_is 0 j) (x1 : Int32) (hp : pre_X_outcome M j x1) : cs_Cl l ⟨"ClassStarter", "outcome", "(I)J"⟩ prog_1_method_15_code 2 (some .long) ({ frames := 1, cells := 0, slots := 0, locals := 21 }) D cA ad M [.ref (ad j), .int x1] ((f_X_outcome M j x1, M)) := by
  refine cs_entry (by decide) (Nat.le_of_ble_eq_true rfl) (fun p e s m below meth c A ls hC hr hlk _ hw hl => ?_)
  have hx := hC.1
  have hb := hC.2.1
  have hl : lv_has ls 2 [(0, .ref (ad j)), (1, .int x1)] := hl
  generalize hF : f_X_outcome M j x1 = F
  have hf := hF.symm
  unfold f_X_outcome at hf
  unfold pre_X_outcome at hp
  refine lv_iload_n hx hb d_X_outcome_0 rfl (lv_at hl 1 rfl) ?_
  refine lv_if_lt (tgt := 27) hx hb d_X_outcome_1 (by decide) (fun c1 => ?_) (fun c1 => ?_)
  · have hp := hp.1 c1
    have hf := hf.trans (if_pos c1)
    refine lv_ldc2 (v := 1000000000000) hx hb hC.2.2.2.1 (hC.2.2.2.2.1 _ wd_401) d_X_outcome_27 ?_
    exact cs_lret hC hw hr hlk (congrArg (fun z => (z, M)) hf) d_X_outcome_30
  · have hp := hp.2 c1
    have hf := hf.trans (if_neg c1)
    refine lv_iload_n hx hb d_X_outcome_4 rfl (lv_at hl 1 rfl) ?_
    refine lv_aload_n hx hb d_X_outcome_5 rfl (lv_at hl 0 rfl) ?_
    refine gf_X_explorer hC hw hj wd_179 d_X_outcome_6 ?_
    refine cs_ret_p hC hw (cs_runV (As := []) (rest := [.int x1]) hC hw is_55.2 (ci := 4) rfl rfl (cs_sg_is is_55) (c_Ex_foundCount l D cA ad M 55 is_55 _) rfl rfl cw_X_115 ⟨Nat.le_of_ble_eq_true rfl, Nat.le_of_ble_eq_true rfl⟩ hl.1 rfl rfl (Nat.le_of_ble_eq_true rfl) d_X_outcome_9 ⟨Nat.zero_le _, Nat.zero_le _⟩) (fun r2 H locs er2 hw => ?_)
    have hp := cs_bdP er2 hp
    have hf := cs_bdE er2 hf
    refine lv_icmp_ge (tgt := 27) hx hb d_X_outcome_12 (by decide) (fun c3 => ?_) (fun c3 => ?_)
    · have hp := hp.1 c3
      have hf := hf.trans (if_pos c3)
      refine lv_ldc2 (v := 1000000000000) hx hb hC.2.2.2.1 (hC.2.2.2.2.1 _ wd_401) d_X_outcome_27 ?_
      exact cs_lret hC hw hr hlk (congrArg (fun z => (z, M)) hf) d_X_outcome_30
    · have hp := hp.2 c3
      have hf := hf.trans (if_neg c3)
      refine lv_aload_n hx hb d_X_outcome_15 rfl (lv_at hl 0 rfl) ?_
      refine gf_X_explorer hC hw hj wd_179 d_X_outcome_16 ?_
      refine lv_iload_n hx hb d_X_outcome_19 rfl (lv_at hl 1 rfl) ?_
      have o4 := hp.1
      have hp := hp.2
      refine cs_ret_p hC hw (cs_runV (As := [.int x1]) (rest := []) hC hw is_55.2 (ci := 4) rfl rfl (cs_sg_is is_55) (c_Ex_foundAt l D cA ad M 55 is_55 x1 o4 _) rfl rfl cw_X_118 ⟨Nat.le_of_ble_eq_true rfl, Nat.le_of_ble_eq_true rfl⟩ hl.1 rfl rfl (Nat.le_of_ble_eq_true rfl) d_X_outcome_20 ⟨Nat.zero_le _, Nat.zero_le _⟩) (fun r5 H locs er5 hw => ?_)
      have hf := cs_bdE er5 hf
      refine lv_i2l hx hb d_X_outcome_23 rfl ?_
      refine lv_goto (tgt := 30) hx hb d_X_outcome_24 (by decide) ?_
      exact cs_lret hC hw hr hlk (congrArg (fun z => (z, M)) hf) d_X_outcome_30
theorem d_X_count_0 : decode prog_1_method_16_code 0 = .ok (.iload_n 1, 1) := by decide +kernel
theorem d_X_count_1 : decode prog_1_method_16_code 1 = .ok (.tableswitch 95 0 5 #[39, 47, 55, 63, 71, 79], 39) := by decide +kernel
theorem d_X_count_40 : decode prog_1_method_16_code 40 = .ok (.aload_n 0, 1) := by decide +kernel
theorem d_X_count_41 : decode prog_1_method_16_code 41 = .ok (.getfield 12, 3) := by decide +kernel
theorem d_X_count_44 : decode prog_1_method_16_code 44 = .ok (.invokevirtual 121, 3) := by decide +kernel
theorem d_X_count_47 : decode prog_1_method_16_code 47 = .ok (.ireturn, 1) := by decide +kernel
theorem d_X_count_48 : decode prog_1_method_16_code 48 = .ok (.aload_n 0, 1) := by decide +kernel
theorem d_X_count_49 : decode prog_1_method_16_code 49 = .ok (.getfield 21, 3) := by decide +kernel
theorem d_X_count_52 : decode prog_1_method_16_code 52 = .ok (.invokevirtual 72, 3) := by decide +kernel
theorem d_X_count_55 : decode prog_1_method_16_code 55 = .ok (.ireturn, 1) := by decide +kernel
theorem d_X_count_56 : decode prog_1_method_16_code 56 = .ok (.aload_n 0, 1) := by decide +kernel
theorem d_X_count_57 : decode prog_1_method_16_code 57 = .ok (.getfield 21, 3) := by decide +kernel
theorem d_X_count_60 : decode prog_1_method_16_code 60 = .ok (.invokevirtual 100, 3) := by decide +kernel
theorem d_X_count_63 : decode prog_1_method_16_code 63 = .ok (.ireturn, 1) := by decide +kernel
theorem d_X_count_64 : decode prog_1_method_16_code 64 = .ok (.aload_n 0, 1) := by decide +kernel
theorem d_X_count_65 : decode prog_1_method_16_code 65 = .ok (.getfield 30, 3) := by decide +kernel
theorem d_X_count_68 : decode prog_1_method_16_code 68 = .ok (.invokevirtual 124, 3) := by decide +kernel
theorem d_X_count_71 : decode prog_1_method_16_code 71 = .ok (.ireturn, 1) := by decide +kernel
theorem d_X_count_72 : decode prog_1_method_16_code 72 = .ok (.aload_n 0, 1) := by decide +kernel
theorem d_X_count_73 : decode prog_1_method_16_code 73 = .ok (.getfield 30, 3) := by decide +kernel
theorem d_X_count_76 : decode prog_1_method_16_code 76 = .ok (.invokevirtual 127, 3) := by decide +kernel
theorem d_X_count_79 : decode prog_1_method_16_code 79 = .ok (.ireturn, 1) := by decide +kernel
theorem d_X_count_80 : decode prog_1_method_16_code 80 = .ok (.aload_n 0, 1) := by decide +kernel
theorem d_X_count_81 : decode prog_1_method_16_code 81 = .ok (.getfield 21, 3) := by decide +kernel
theorem d_X_count_84 : decode prog_1_method_16_code 84 = .ok (.invokevirtual 34, 3) := by decide +kernel
theorem d_X_count_87 : decode prog_1_method_16_code 87 = .ok (.ifCond .eq 7, 3) := by decide +kernel
theorem d_X_count_90 : decode prog_1_method_16_code 90 = .ok (.iconst 1, 1) := by decide +kernel
theorem d_X_count_91 : decode prog_1_method_16_code 91 = .ok (.goto 4, 3) := by decide +kernel
theorem d_X_count_94 : decode prog_1_method_16_code 94 = .ok (.iconst 0, 1) := by decide +kernel
theorem d_X_count_95 : decode prog_1_method_16_code 95 = .ok (.ireturn, 1) := by decide +kernel
theorem d_X_count_96 : decode prog_1_method_16_code 96 = .ok (.iconst (-1), 1) := by decide +kernel
theorem d_X_count_97 : decode prog_1_method_16_code 97 = .ok (.ireturn, 1) := by decide +kernel
def f_X_count (M : cs_Mem) (j : Nat) (x1 : Int32) : Int32 :=
  if x1 = 0 then
    cs_bd (f_Pr_classCount M 1) fun (r2 : Int32) =>
    r2
  else
    if x1 = 1 then
      cs_bd (f_Ma_steps M 52) fun (r5 : Int32) =>
      r5
    else
      if x1 = 2 then
        cs_bd (f_Ma_logSize M 52) fun (r8 : Int32) =>
        r8
      else
        if x1 = 3 then
          cs_bd (f_Ex_orders M 55) fun (r10 : Int32) =>
          r10
        else
          if x1 = 4 then
            cs_bd (f_Ex_stuckOrders M 55) fun (r12 : Int32) =>
            r12
          else
            if x1 = 5 then
              cs_bd (f_Ma_hasBegun M 52) fun (r15 : Int32) =>
              if r15 = 0 then
                0
              else
                1
            else
              (-1)
def pre_X_count (M : cs_Mem) (j : Nat) (x1 : Int32) : Prop :=
  (x1 = 0 →
    True
  ) ∧ (¬ (x1 = 0) →
    (x1 = 1 →
      (pre_Ma_steps M 52) ∧
      True
    ) ∧ (¬ (x1 = 1) →
      (x1 = 2 →
        (pre_Ma_logSize M 52) ∧
        True
      ) ∧ (¬ (x1 = 2) →
        (x1 = 3 →
          True
        ) ∧ (¬ (x1 = 3) →
          (x1 = 4 →
            True
          ) ∧ (¬ (x1 = 4) →
            (x1 = 5 →
              (pre_Ma_hasBegun M 52) ∧
              True
            ) ∧ (¬ (x1 = 5) →
              True
            )
          )
        )
      )
    )
  )
set_option maxHeartbeats 4000000 in
set_option maxRecDepth 100000 in
theorem c_X_count (l : Launch) (D : va_G) (cA : Nat → ClassId) (ad : Nat → Nat) (M : cs_Mem) (j : Nat) (hj : cs_is 0 j) (x1 : Int32) (hp : pre_X_count M j x1) : cs_Ci l ⟨"ClassStarter", "count", "(I)I"⟩ prog_1_method_16_code 2 (some .int) ({ frames := 1, cells := 0, slots := 0, locals := 20 }) D cA ad M [.ref (ad j), .int x1] ((f_X_count M j x1, M)) := by
  refine cs_entry (by decide) (Nat.le_of_ble_eq_true rfl) (fun p e s m below meth c A ls hC hr hlk _ hw hl => ?_)
  have hx := hC.1
  have hb := hC.2.1
  have hl : lv_has ls 2 [(0, .ref (ad j)), (1, .int x1)] := hl
  generalize hF : f_X_count M j x1 = F
  have hf := hF.symm
  unfold f_X_count at hf
  unfold pre_X_count at hp
  refine lv_iload_n hx hb d_X_count_0 rfl (lv_at hl 1 rfl) ?_
  rcases Decidable.em (x1 = 0) with c1 | c1
  · have hp := hp.1 c1
    have hf := hf.trans (if_pos c1)
    refine lv_tableIn (off := 39) (tgt := 40) hx hb d_X_count_1 (by rw [c1]; decide) (by rw [c1]; decide) (by rw [c1] <;> rfl) (by decide) ?_
    refine lv_aload_n hx hb d_X_count_40 rfl (lv_at hl 0 rfl) ?_
    refine gf_X_program hC hw hj wd_177 d_X_count_41 ?_
    refine cs_ret_p hC hw (cs_runV (As := []) (rest := []) hC hw is_1.2 (ci := 1) rfl rfl (cs_sg_is is_1) (c_Pr_classCount l D cA ad M 1 is_1 _) rfl rfl cw_X_121 ⟨Nat.le_of_ble_eq_true rfl, Nat.le_of_ble_eq_true rfl⟩ hl.1 rfl rfl (Nat.le_of_ble_eq_true rfl) d_X_count_44 ⟨Nat.zero_le _, Nat.zero_le _⟩) (fun r2 H locs er2 hw => ?_)
    have hf := cs_bdE er2 hf
    exact cs_iret hC hw hr hlk (congrArg (fun z => (z, M)) hf) d_X_count_47
  · have hp := hp.2 c1
    have hf := hf.trans (if_neg c1)
    rcases Decidable.em (x1 = 1) with c3 | c3
    · have hp := hp.1 c3
      have hf := hf.trans (if_pos c3)
      refine lv_tableIn (off := 47) (tgt := 48) hx hb d_X_count_1 (by rw [c3]; decide) (by rw [c3]; decide) (by rw [c3] <;> rfl) (by decide) ?_
      refine lv_aload_n hx hb d_X_count_48 rfl (lv_at hl 0 rfl) ?_
      refine gf_X_machine hC hw hj wd_178 d_X_count_49 ?_
      have o4 := hp.1
      have hp := hp.2
      refine cs_ret_p hC hw (cs_runV (As := []) (rest := []) hC hw is_52.2 (ci := 3) rfl rfl (cs_sg_is is_52) (c_Ma_steps l D cA ad M 52 is_52 o4 _) rfl rfl cw_X_72 ⟨Nat.le_of_ble_eq_true rfl, Nat.le_of_ble_eq_true rfl⟩ hl.1 rfl rfl (Nat.le_of_ble_eq_true rfl) d_X_count_52 ⟨Nat.zero_le _, Nat.zero_le _⟩) (fun r5 H locs er5 hw => ?_)
      have hf := cs_bdE er5 hf
      exact cs_iret hC hw hr hlk (congrArg (fun z => (z, M)) hf) d_X_count_55
    · have hp := hp.2 c3
      have hf := hf.trans (if_neg c3)
      rcases Decidable.em (x1 = 2) with c6 | c6
      · have hp := hp.1 c6
        have hf := hf.trans (if_pos c6)
        refine lv_tableIn (off := 55) (tgt := 56) hx hb d_X_count_1 (by rw [c6]; decide) (by rw [c6]; decide) (by rw [c6] <;> rfl) (by decide) ?_
        refine lv_aload_n hx hb d_X_count_56 rfl (lv_at hl 0 rfl) ?_
        refine gf_X_machine hC hw hj wd_178 d_X_count_57 ?_
        have o7 := hp.1
        have hp := hp.2
        refine cs_ret_p hC hw (cs_runV (As := []) (rest := []) hC hw is_52.2 (ci := 3) rfl rfl (cs_sg_is is_52) (c_Ma_logSize l D cA ad M 52 is_52 o7 _) rfl rfl cw_X_100 ⟨Nat.le_of_ble_eq_true rfl, Nat.le_of_ble_eq_true rfl⟩ hl.1 rfl rfl (Nat.le_of_ble_eq_true rfl) d_X_count_60 ⟨Nat.zero_le _, Nat.zero_le _⟩) (fun r8 H locs er8 hw => ?_)
        have hf := cs_bdE er8 hf
        exact cs_iret hC hw hr hlk (congrArg (fun z => (z, M)) hf) d_X_count_63
      · have hp := hp.2 c6
        have hf := hf.trans (if_neg c6)
        rcases Decidable.em (x1 = 3) with c9 | c9
        · have hp := hp.1 c9
          have hf := hf.trans (if_pos c9)
          refine lv_tableIn (off := 63) (tgt := 64) hx hb d_X_count_1 (by rw [c9]; decide) (by rw [c9]; decide) (by rw [c9] <;> rfl) (by decide) ?_
          refine lv_aload_n hx hb d_X_count_64 rfl (lv_at hl 0 rfl) ?_
          refine gf_X_explorer hC hw hj wd_179 d_X_count_65 ?_
          refine cs_ret_p hC hw (cs_runV (As := []) (rest := []) hC hw is_55.2 (ci := 4) rfl rfl (cs_sg_is is_55) (c_Ex_orders l D cA ad M 55 is_55 _) rfl rfl cw_X_124 ⟨Nat.le_of_ble_eq_true rfl, Nat.le_of_ble_eq_true rfl⟩ hl.1 rfl rfl (Nat.le_of_ble_eq_true rfl) d_X_count_68 ⟨Nat.zero_le _, Nat.zero_le _⟩) (fun r10 H locs er10 hw => ?_)
          have hf := cs_bdE er10 hf
          exact cs_iret hC hw hr hlk (congrArg (fun z => (z, M)) hf) d_X_count_71
        · have hp := hp.2 c9
          have hf := hf.trans (if_neg c9)
          rcases Decidable.em (x1 = 4) with c11 | c11
          · have hp := hp.1 c11
            have hf := hf.trans (if_pos c11)
            refine lv_tableIn (off := 71) (tgt := 72) hx hb d_X_count_1 (by rw [c11]; decide) (by rw [c11]; decide) (by rw [c11] <;> rfl) (by decide) ?_
            refine lv_aload_n hx hb d_X_count_72 rfl (lv_at hl 0 rfl) ?_
            refine gf_X_explorer hC hw hj wd_179 d_X_count_73 ?_
            refine cs_ret_p hC hw (cs_runV (As := []) (rest := []) hC hw is_55.2 (ci := 4) rfl rfl (cs_sg_is is_55) (c_Ex_stuckOrders l D cA ad M 55 is_55 _) rfl rfl cw_X_127 ⟨Nat.le_of_ble_eq_true rfl, Nat.le_of_ble_eq_true rfl⟩ hl.1 rfl rfl (Nat.le_of_ble_eq_true rfl) d_X_count_76 ⟨Nat.zero_le _, Nat.zero_le _⟩) (fun r12 H locs er12 hw => ?_)
            have hf := cs_bdE er12 hf
            exact cs_iret hC hw hr hlk (congrArg (fun z => (z, M)) hf) d_X_count_79
          · have hp := hp.2 c11
            have hf := hf.trans (if_neg c11)
            rcases Decidable.em (x1 = 5) with c13 | c13
            · have hp := hp.1 c13
              have hf := hf.trans (if_pos c13)
              refine lv_tableIn (off := 79) (tgt := 80) hx hb d_X_count_1 (by rw [c13]; decide) (by rw [c13]; decide) (by rw [c13] <;> rfl) (by decide) ?_
              refine lv_aload_n hx hb d_X_count_80 rfl (lv_at hl 0 rfl) ?_
              refine gf_X_machine hC hw hj wd_178 d_X_count_81 ?_
              have o14 := hp.1
              have hp := hp.2
              refine cs_ret_p hC hw (cs_runV (As := []) (rest := []) hC hw is_52.2 (ci := 3) rfl rfl (cs_sg_is is_52) (c_Ma_hasBegun l D cA ad M 52 is_52 o14 _) rfl rfl cw_X_34 ⟨Nat.le_of_ble_eq_true rfl, Nat.le_of_ble_eq_true rfl⟩ hl.1 rfl rfl (Nat.le_of_ble_eq_true rfl) d_X_count_84 ⟨Nat.zero_le _, Nat.zero_le _⟩) (fun r15 H locs er15 hw => ?_)
              have hf := cs_bdE er15 hf
              refine lv_if_eq (tgt := 94) hx hb d_X_count_87 (by decide) (fun c16 => ?_) (fun c16 => ?_)
              · have hf := hf.trans (if_pos c16)
                refine lv_iconst (v := 0) hx hb d_X_count_94 (by decide) ?_
                exact cs_iret hC hw hr hlk (congrArg (fun z => (z, M)) hf) d_X_count_95
              · have hf := hf.trans (if_neg c16)
                refine lv_iconst (v := 1) hx hb d_X_count_90 (by decide) ?_
                refine lv_goto (tgt := 95) hx hb d_X_count_91 (by decide) ?_
                exact cs_iret hC hw hr hlk (congrArg (fun z => (z, M)) hf) d_X_count_95
            · have hp := hp.2 c13
              have hf := hf.trans (if_neg c13)
              refine lv_tableOut (tgt := 96) hx hb d_X_count_1 (by have q0 := lv_neT c1 (show (0 : Int32).toInt = 0 by decide); have q1 := lv_neT c3 (show (1 : Int32).toInt = 1 by decide); have q2 := lv_neT c6 (show (2 : Int32).toInt = 2 by decide); have q3 := lv_neT c9 (show (3 : Int32).toInt = 3 by decide); have q4 := lv_neT c11 (show (4 : Int32).toInt = 4 by decide); have q5 := lv_neT c13 (show (5 : Int32).toInt = 5 by decide); omega) (by decide) ?_
              refine lv_iconst (v := (-1)) hx hb d_X_count_96 (by decide) ?_
              exact cs_iret hC hw hr hlk (congrArg (fun z => (z, M)) hf) d_X_count_97
