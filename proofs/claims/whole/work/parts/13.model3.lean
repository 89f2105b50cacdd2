theorem d_Mo_resultNow_0 : decode prog_8_method_29_code 0 = .ok (.aload_n 0, 1) := by decide +kernel
theorem d_Mo_resultNow_1 : decode prog_8_method_29_code 1 = .ok (.getfield 74, 3) := by decide +kernel
theorem d_Mo_resultNow_4 : decode prog_8_method_29_code 4 = .ok (.iload_n 1, 1) := by decide +kernel
theorem d_Mo_resultNow_5 : decode prog_8_method_29_code 5 = .ok (.iaload, 1) := by decide +kernel
theorem d_Mo_resultNow_6 : decode prog_8_method_29_code 6 = .ok (.ifCond .lt 10, 3) := by decide +kernel
theorem d_Mo_resultNow_9 : decode prog_8_method_29_code 9 = .ok (.aload_n 0, 1) := by decide +kernel
theorem d_Mo_resultNow_10 : decode prog_8_method_29_code 10 = .ok (.getfield 74, 3) := by decide +kernel
theorem d_Mo_resultNow_13 : decode prog_8_method_29_code 13 = .ok (.iload_n 1, 1) := by decide +kernel
theorem d_Mo_resultNow_14 : decode prog_8_method_29_code 14 = .ok (.iaload, 1) := by decide +kernel
theorem d_Mo_resultNow_15 : decode prog_8_method_29_code 15 = .ok (.ireturn, 1) := by decide +kernel
theorem d_Mo_resultNow_16 : decode prog_8_method_29_code 16 = .ok (.aload_n 0, 1) := by decide +kernel
theorem d_Mo_resultNow_17 : decode prog_8_method_29_code 17 = .ok (.iconst 0, 1) := by decide +kernel
theorem d_Mo_resultNow_18 : decode prog_8_method_29_code 18 = .ok (.invokevirtual 170, 3) := by decide +kernel
theorem d_Mo_resultNow_21 : decode prog_8_method_29_code 21 = .ok (.ifCond .ne 19, 3) := by decide +kernel
theorem d_Mo_resultNow_24 : decode prog_8_method_29_code 24 = .ok (.aload_n 0, 1) := by decide +kernel
theorem d_Mo_resultNow_25 : decode prog_8_method_29_code 25 = .ok (.iconst 1, 1) := by decide +kernel
theorem d_Mo_resultNow_26 : decode prog_8_method_29_code 26 = .ok (.invokevirtual 170, 3) := by decide +kernel
theorem d_Mo_resultNow_29 : decode prog_8_method_29_code 29 = .ok (.ifCond .ne 11, 3) := by decide +kernel
theorem d_Mo_resultNow_32 : decode prog_8_method_29_code 32 = .ok (.aload_n 0, 1) := by decide +kernel
theorem d_Mo_resultNow_33 : decode prog_8_method_29_code 33 = .ok (.iconst 2, 1) := by decide +kernel
theorem d_Mo_resultNow_34 : decode prog_8_method_29_code 34 = .ok (.invokevirtual 170, 3) := by decide +kernel
theorem d_Mo_resultNow_37 : decode prog_8_method_29_code 37 = .ok (.ifCond .eq 7, 3) := by decide +kernel
theorem d_Mo_resultNow_40 : decode prog_8_method_29_code 40 = .ok (.iconst 1, 1) := by decide +kernel
theorem d_Mo_resultNow_41 : decode prog_8_method_29_code 41 = .ok (.goto 4, 3) := by decide +kernel
theorem d_Mo_resultNow_44 : decode prog_8_method_29_code 44 = .ok (.iconst 0, 1) := by decide +kernel
theorem d_Mo_resultNow_45 : decode prog_8_method_29_code 45 = .ok (.istore_n 2, 1) := by decide +kernel
theorem d_Mo_resultNow_46 : decode prog_8_method_29_code 46 = .ok (.aload_n 0, 1) := by decide +kernel
theorem d_Mo_resultNow_47 : decode prog_8_method_29_code 47 = .ok (.iload_n 1, 1) := by decide +kernel
theorem d_Mo_resultNow_48 : decode prog_8_method_29_code 48 = .ok (.invokevirtual 129, 3) := by decide +kernel
theorem d_Mo_resultNow_51 : decode prog_8_method_29_code 51 = .ok (.ifCond .eq 12, 3) := by decide +kernel
theorem d_Mo_resultNow_54 : decode prog_8_method_29_code 54 = .ok (.iload_n 2, 1) := by decide +kernel
theorem d_Mo_resultNow_55 : decode prog_8_method_29_code 55 = .ok (.ifCond .ne 8, 3) := by decide +kernel
theorem d_Mo_resultNow_58 : decode prog_8_method_29_code 58 = .ok (.bipush 50, 2) := by decide +kernel
theorem d_Mo_resultNow_60 : decode prog_8_method_29_code 60 = .ok (.goto 4, 3) := by decide +kernel
theorem d_Mo_resultNow_63 : decode prog_8_method_29_code 63 = .ok (.iconst (-1), 1) := by decide +kernel
theorem d_Mo_resultNow_64 : decode prog_8_method_29_code 64 = .ok (.ireturn, 1) := by decide +kernel
def f_Mo_resultNow_J40 (M : cs_Mem) (j : Nat) (y1 : Int32) : Int32 :=
  cs_bd (f_Mo_waits M j y1) fun (r18 : Int32) =>
  if r18 = 0 then
    (-1)
  else
    (-1)
def pre_Mo_resultNow_J40 (M : cs_Mem) (j : Nat) (y1 : Int32) : Prop :=
  (pre_Mo_waits M j y1) ∧
  True
def f_Mo_resultNow (M : cs_Mem) (j : Nat) (x1 : Int32) : Int32 :=
  if (M 84 x1.toNatClampNeg) < 0 then
    cs_bd (f_Mo_canStep M j 0) fun (r4 : Int32) =>
    if r4 = 0 then
      cs_bd (f_Mo_canStep M j 1) fun (r7 : Int32) =>
      if r7 = 0 then
        cs_bd (f_Mo_canStep M j 2) fun (r10 : Int32) =>
        if r10 = 0 then
          cs_bd (f_Mo_waits M j x1) fun (r13 : Int32) =>
          if r13 = 0 then
            (-1)
          else
            50
        else
          f_Mo_resultNow_J40 M j x1
      else
        f_Mo_resultNow_J40 M j x1
    else
      f_Mo_resultNow_J40 M j x1
  else
    M 84 x1.toNatClampNeg
def pre_Mo_resultNow (M : cs_Mem) (j : Nat) (x1 : Int32) : Prop :=
  (vp_in x1 (cs_ln M 84)) ∧
  ((M 84 x1.toNatClampNeg) < 0 →
    (pre_Mo_canStep M j 0) ∧
    cs_bd (f_Mo_canStep M j 0) fun (r4 : Int32) =>
    (r4 = 0 →
      (pre_Mo_canStep M j 1) ∧
      cs_bd (f_Mo_canStep M j 1) fun (r7 : Int32) =>
      (r7 = 0 →
        (pre_Mo_canStep M j 2) ∧
        cs_bd (f_Mo_canStep M j 2) fun (r10 : Int32) =>
        (r10 = 0 →
          (pre_Mo_waits M j x1) ∧
          True
        ) ∧ (¬ (r10 = 0) →
          pre_Mo_resultNow_J40 M j x1
        )
      ) ∧ (¬ (r7 = 0) →
        pre_Mo_resultNow_J40 M j x1
      )
    ) ∧ (¬ (r4 = 0) →
      pre_Mo_resultNow_J40 M j x1
    )
  ) ∧ (¬ ((M 84 x1.toNatClampNeg) < 0) →
    (vp_in x1 (cs_ln M 84)) ∧
    True
  )
set_option maxHeartbeats 4000000 in
set_option maxRecDepth 100000 in
theorem w_Mo_resultNow_J40 {p : Program} {l : Launch} {e : Env} {s : State} {m : MethodId} {args : Array Value} {below : List Frame} {meth : Method} {c : Code} {D : va_G} {cA : Nat → ClassId} {A : Nat → Prop} {ad : Nat → Nat} {F : Int32} (hC : cs_Ctx p s m args c prog_8_method_29_code 3 "ClassStarterModel" D cA A) (hr : meth.sig.returnType = (some .int)) (hlk : meth.locks = false) : ∀ (M : cs_Mem) (j : Nat) (y1 : Int32) (H : Heap) (locs : List Loc) (ls : Array Slot), cs_Wd D cA ad M A s H locs → lv_has ls 3 [(0, .ref (ad j)), (1, .int y1)] → cs_is 5 j → pre_Mo_resultNow_J40 M j y1 → F = f_Mo_resultNow_J40 M j y1 → W p l e ({ frames := 6, cells := 0, slots := 0, locals := 137 }) s m args below meth c H locs 0 0 (MQ below (cs_Qi D cA ad (F, M) A) args s 0 0 A) (F0 m 40 ls []) := by
  have hx := hC.1
  have hb := hC.2.1
  intro M j y1 H locs ls hw hl g0 hp hf
  unfold f_Mo_resultNow_J40 at hf
  unfold pre_Mo_resultNow_J40 at hp
  refine lv_iconst (v := 1) hx hb d_Mo_resultNow_40 (by decide) ?_
  refine lv_goto (tgt := 45) hx hb d_Mo_resultNow_41 (by decide) ?_
  refine lv_istore_n (lv' := [(2, .int 1), (0, .ref (ad j)), (1, .int y1)]) hx hb d_Mo_resultNow_45 rfl hl (by decide) rfl (fun ls hl => ?_)
  refine lv_aload_n hx hb d_Mo_resultNow_46 rfl (lv_at hl 1 rfl) ?_
  refine lv_iload_n hx hb d_Mo_resultNow_47 rfl (lv_at hl 2 rfl) ?_
  have o17 := hp.1
  have hp := hp.2
  refine cs_ret_p hC hw (cs_runV (As := [.int y1]) (rest := []) hC hw g0.2 (ci := 5) rfl rfl (cs_sg_is g0) (c_Mo_waits l D cA ad M j g0 y1 o17 _) rfl rfl cw_Mo_129 ⟨Nat.le_of_ble_eq_true rfl, Nat.le_of_ble_eq_true rfl⟩ hl.1 rfl rfl (Nat.le_of_ble_eq_true rfl) d_Mo_resultNow_48 ⟨Nat.zero_le _, Nat.zero_le _⟩) (fun r18 H locs er18 hw => ?_)
  have hf := cs_bdE er18 hf
  refine lv_if_eq (tgt := 63) hx hb d_Mo_resultNow_51 (by decide) (fun c19 => ?_) (fun c19 => ?_)
  · have hf := hf.trans (if_pos c19)
    refine lv_iconst (v := (-1)) hx hb d_Mo_resultNow_63 (by decide) ?_
    exact cs_iret hC hw hr hlk (congrArg (fun z => (z, M)) hf) d_Mo_resultNow_64
  · have hf := hf.trans (if_neg c19)
    refine lv_iload_n hx hb d_Mo_resultNow_54 rfl (lv_at hl 0 rfl) ?_
    refine lv_if_ne (tgt := 63) hx hb d_Mo_resultNow_55 (by decide) (fun _ => ?_) (fun c20 => absurd c20 (by decide))
    refine lv_iconst (v := (-1)) hx hb d_Mo_resultNow_63 (by decide) ?_
    exact cs_iret hC hw hr hlk (congrArg (fun z => (z, M)) hf) d_Mo_resultNow_64
set_option maxHeartbeats 4000000 in
set_option maxRecDepth 100000 in
theorem c_Mo_resultNow (l : Launch) (D : va_G) (cA : Nat → ClassId) (ad : Nat → Nat) (M : cs_Mem) (j : Nat) (hj : cs_is 5 j) (x1 : Int32) (hp : pre_Mo_resultNow M j x1) : cs_Ci l ⟨"ClassStarterModel", "resultNow", "(I)I"⟩ prog_8_method_29_code 3 (some .int) ({ frames := 6, cells := 0, slots := 0, locals := 137 }) D cA ad M [.ref (ad j), .int x1] ((f_Mo_resultNow M j x1, M)) := by
  refine cs_entry (by decide) (Nat.le_of_ble_eq_true rfl) (fun p e s m below meth c A ls hC hr hlk _ hw hl => ?_)
  have hx := hC.1
  have hb := hC.2.1
  have hl : lv_has ls 3 [(0, .ref (ad j)), (1, .int x1)] := hl
  generalize hF : f_Mo_resultNow M j x1 = F
  have hf := hF.symm
  unfold f_Mo_resultNow at hf
  unfold pre_Mo_resultNow at hp
  refine lv_aload_n hx hb d_Mo_resultNow_0 rfl (lv_at hl 0 rfl) ?_
  refine gf_Mo_ended hC hw hj wd_573 d_Mo_resultNow_1 ?_
  refine lv_iload_n hx hb d_Mo_resultNow_4 rfl (lv_at hl 1 rfl) ?_
  have o1 := hp.1
  have hp := hp.2
  refine cs_iald hC hw is_84 o1 d_Mo_resultNow_5 ?_
  refine lv_if_lt (tgt := 16) hx hb d_Mo_resultNow_6 (by decide) (fun c2 => ?_) (fun c2 => ?_)
  · have hp := hp.1 c2
    have hf := hf.trans (if_pos c2)
    refine lv_aload_n hx hb d_Mo_resultNow_16 rfl (lv_at hl 0 rfl) ?_
    refine lv_iconst (v := 0) hx hb d_Mo_resultNow_17 (by decide) ?_
    have o3 := hp.1
    have hp := hp.2
    refine cs_ret_p hC hw (cs_runV (As := [.int 0]) (rest := []) hC hw hj.2 (ci := 5) rfl rfl (cs_sg_is hj) (c_Mo_canStep l D cA ad M j hj 0 o3 _) rfl rfl cw_Mo_170 ⟨Nat.le_of_ble_eq_true rfl, Nat.le_of_ble_eq_true rfl⟩ hl.1 rfl rfl (Nat.le_of_ble_eq_true rfl) d_Mo_resultNow_18 ⟨Nat.zero_le _, Nat.zero_le _⟩) (fun r4 H locs er4 hw => ?_)
    have hp := cs_bdP er4 hp
    have hf := cs_bdE er4 hf
    refine lv_if_ne (tgt := 40) hx hb d_Mo_resultNow_21 (by decide) (fun c5 => ?_) (fun c5 => ?_)
    · have hp := hp.2 c5
      have hf := hf.trans (if_neg c5)
      exact w_Mo_resultNow_J40 hC hr hlk M j x1 _ _ ls hw (lv_sub hl [0, 1] rfl) hj hp hf
    · have hp := hp.1 c5
      have hf := hf.trans (if_pos c5)
      refine lv_aload_n hx hb d_Mo_resultNow_24 rfl (lv_at hl 0 rfl) ?_
      refine lv_iconst (v := 1) hx hb d_Mo_resultNow_25 (by decide) ?_
      have o6 := hp.1
      have hp := hp.2
      refine cs_ret_p hC hw (cs_runV (As := [.int 1]) (rest := []) hC hw hj.2 (ci := 5) rfl rfl (cs_sg_is hj) (c_Mo_canStep l D cA ad M j hj 1 o6 _) rfl rfl cw_Mo_170 ⟨Nat.le_of_ble_eq_true rfl, Nat.le_of_ble_eq_true rfl⟩ hl.1 rfl rfl (Nat.le_of_ble_eq_true rfl) d_Mo_resultNow_26 ⟨Nat.zero_le _, Nat.zero_le _⟩) (fun r7 H locs er7 hw => ?_)
      have hp := cs_bdP er7 hp
      have hf := cs_bdE er7 hf
      refine lv_if_ne (tgt := 40) hx hb d_Mo_resultNow_29 (by decide) (fun c8 => ?_) (fun c8 => ?_)
      · have hp := hp.2 c8
        have hf := hf.trans (if_neg c8)
        exact w_Mo_resultNow_J40 hC hr hlk M j x1 _ _ ls hw (lv_sub hl [0, 1] rfl) hj hp hf
      · have hp := hp.1 c8
        have hf := hf.trans (if_pos c8)
        refine lv_aload_n hx hb d_Mo_resultNow_32 rfl (lv_at hl 0 rfl) ?_
        refine lv_iconst (v := 2) hx hb d_Mo_resultNow_33 (by decide) ?_
        have o9 := hp.1
        have hp := hp.2
        refine cs_ret_p hC hw (cs_runV (As := [.int 2]) (rest := []) hC hw hj.2 (ci := 5) rfl rfl (cs_sg_is hj) (c_Mo_canStep l D cA ad M j hj 2 o9 _) rfl rfl cw_Mo_170 ⟨Nat.le_of_ble_eq_true rfl, Nat.le_of_ble_eq_true rfl⟩ hl.1 rfl rfl (Nat.le_of_ble_eq_true rfl) d_Mo_resultNow_34 ⟨Nat.zero_le _, Nat.zero_le _⟩) (fun r10 H locs er10 hw => ?_)
        have hp := cs_bdP er10 hp
        have hf := cs_bdE er10 hf
        refine lv_if_eq (tgt := 44) hx hb d_Mo_resultNow_37 (by decide) (fun c11 => ?_) (fun c11 => ?_)
        · have hp := hp.1 c11
          have hf := hf.trans (if_pos c11)
          refine lv_iconst (v := 0) hx hb d_Mo_resultNow_44 (by decide) ?_
          refine lv_istore_n (lv' := [(2, .int 0), (0, .ref (ad j)), (1, .int x1)]) hx hb d_Mo_resultNow_45 rfl hl (by decide) rfl (fun ls hl => ?_)
          refine lv_aload_n hx hb d_Mo_resultNow_46 rfl (lv_at hl 1 rfl) ?_
          refine lv_iload_n hx hb d_Mo_resultNow_47 rfl (lv_at hl 2 rfl) ?_
          have o12 := hp.1
          have hp := hp.2
          refine cs_ret_p hC hw (cs_runV (As := [.int x1]) (rest := []) hC hw hj.2 (ci := 5) rfl rfl (cs_sg_is hj) (c_Mo_waits l D cA ad M j hj x1 o12 _) rfl rfl cw_Mo_129 ⟨Nat.le_of_ble_eq_true rfl, Nat.le_of_ble_eq_true rfl⟩ hl.1 rfl rfl (Nat.le_of_ble_eq_true rfl) d_Mo_resultNow_48 ⟨Nat.zero_le _, Nat.zero_le _⟩) (fun r13 H locs er13 hw => ?_)
          have hf := cs_bdE er13 hf
          refine lv_if_eq (tgt := 63) hx hb d_Mo_resultNow_51 (by decide) (fun c14 => ?_) (fun c14 => ?_)
          · have hf := hf.trans (if_pos c14)
            refine lv_iconst (v := (-1)) hx hb d_Mo_resultNow_63 (by decide) ?_
            exact cs_iret hC hw hr hlk (congrArg (fun z => (z, M)) hf) d_Mo_resultNow_64
          · have hf := hf.trans (if_neg c14)
            refine lv_iload_n hx hb d_Mo_resultNow_54 rfl (lv_at hl 0 rfl) ?_
            refine lv_if_ne (tgt := 63) hx hb d_Mo_resultNow_55 (by decide) (fun c15 => absurd c15 (by decide)) (fun _ => ?_)
            refine lv_bipush (v := 50) hx hb d_Mo_resultNow_58 (by decide) ?_
            refine lv_goto (tgt := 64) hx hb d_Mo_resultNow_60 (by decide) ?_
            exact cs_iret hC hw hr hlk (congrArg (fun z => (z, M)) hf) d_Mo_resultNow_64
        · have hp := hp.2 c11
          have hf := hf.trans (if_neg c11)
          exact w_Mo_resultNow_J40 hC hr hlk M j x1 _ _ ls hw (lv_sub hl [0, 1] rfl) hj hp hf
  · have hp := hp.2 c2
    have hf := hf.trans (if_neg c2)
    refine lv_aload_n hx hb d_Mo_resultNow_9 rfl (lv_at hl 0 rfl) ?_
    refine gf_Mo_ended hC hw hj wd_573 d_Mo_resultNow_10 ?_
    refine lv_iload_n hx hb d_Mo_resultNow_13 rfl (lv_at hl 1 rfl) ?_
    have o16 := hp.1
    have hp := hp.2
    refine cs_iald hC hw is_84 o16 d_Mo_resultNow_14 ?_
    exact cs_iret hC hw hr hlk (congrArg (fun z => (z, M)) hf) d_Mo_resultNow_15
theorem d_Mo_step_0 : decode prog_8_method_30_code 0 = .ok (.iload_n 1, 1) := by decide +kernel
theorem d_Mo_step_1 : decode prog_8_method_30_code 1 = .ok (.iconst 3, 1) := by decide +kernel
theorem d_Mo_step_2 : decode prog_8_method_30_code 2 = .ok (.invokestatic 94, 3) := by decide +kernel
theorem d_Mo_step_5 : decode prog_8_method_30_code 5 = .ok (.ifCond .eq 5, 3) := by decide +kernel
theorem d_Mo_step_8 : decode prog_8_method_30_code 8 = .ok (.iconst (-1), 1) := by decide +kernel
theorem d_Mo_step_9 : decode prog_8_method_30_code 9 = .ok (.ireturn, 1) := by decide +kernel
theorem d_Mo_step_10 : decode prog_8_method_30_code 10 = .ok (.aload_n 0, 1) := by decide +kernel
theorem d_Mo_step_11 : decode prog_8_method_30_code 11 = .ok (.invokevirtual 173, 3) := by decide +kernel
theorem d_Mo_step_14 : decode prog_8_method_30_code 14 = .ok (.aload_n 0, 1) := by decide +kernel
theorem d_Mo_step_15 : decode prog_8_method_30_code 15 = .ok (.getfield 74, 3) := by decide +kernel
theorem d_Mo_step_18 : decode prog_8_method_30_code 18 = .ok (.iload_n 1, 1) := by decide +kernel
theorem d_Mo_step_19 : decode prog_8_method_30_code 19 = .ok (.iaload, 1) := by decide +kernel
theorem d_Mo_step_20 : decode prog_8_method_30_code 20 = .ok (.ifCond .lt 5, 3) := by decide +kernel
theorem d_Mo_step_23 : decode prog_8_method_30_code 23 = .ok (.iconst (-1), 1) := by decide +kernel
theorem d_Mo_step_24 : decode prog_8_method_30_code 24 = .ok (.ireturn, 1) := by decide +kernel
theorem d_Mo_step_25 : decode prog_8_method_30_code 25 = .ok (.aload_n 0, 1) := by decide +kernel
theorem d_Mo_step_26 : decode prog_8_method_30_code 26 = .ok (.iconst 1, 1) := by decide +kernel
theorem d_Mo_step_27 : decode prog_8_method_30_code 27 = .ok (.putfield 83, 3) := by decide +kernel
theorem d_Mo_step_30 : decode prog_8_method_30_code 30 = .ok (.aload_n 0, 1) := by decide +kernel
theorem d_Mo_step_31 : decode prog_8_method_30_code 31 = .ok (.iload_n 1, 1) := by decide +kernel
theorem d_Mo_step_32 : decode prog_8_method_30_code 32 = .ok (.invokevirtual 129, 3) := by decide +kernel
theorem d_Mo_step_35 : decode prog_8_method_30_code 35 = .ok (.ifCond .eq 5, 3) := by decide +kernel
theorem d_Mo_step_38 : decode prog_8_method_30_code 38 = .ok (.iconst 0, 1) := by decide +kernel
theorem d_Mo_step_39 : decode prog_8_method_30_code 39 = .ok (.ireturn, 1) := by decide +kernel
theorem d_Mo_step_40 : decode prog_8_method_30_code 40 = .ok (.aload_n 0, 1) := by decide +kernel
theorem d_Mo_step_41 : decode prog_8_method_30_code 41 = .ok (.getfield 50, 3) := by decide +kernel
theorem d_Mo_step_44 : decode prog_8_method_30_code 44 = .ok (.aload_n 0, 1) := by decide +kernel
theorem d_Mo_step_45 : decode prog_8_method_30_code 45 = .ok (.getfield 164, 3) := by decide +kernel
theorem d_Mo_step_48 : decode prog_8_method_30_code 48 = .ok (.iload_n 1, 1) := by decide +kernel
theorem d_Mo_step_49 : decode prog_8_method_30_code 49 = .ok (.iastore, 1) := by decide +kernel
theorem d_Mo_step_50 : decode prog_8_method_30_code 50 = .ok (.aload_n 0, 1) := by decide +kernel
theorem d_Mo_step_51 : decode prog_8_method_30_code 51 = .ok (.dup, 1) := by decide +kernel
theorem d_Mo_step_52 : decode prog_8_method_30_code 52 = .ok (.getfield 164, 3) := by decide +kernel
theorem d_Mo_step_55 : decode prog_8_method_30_code 55 = .ok (.iconst 1, 1) := by decide +kernel
theorem d_Mo_step_56 : decode prog_8_method_30_code 56 = .ok (.iadd, 1) := by decide +kernel
theorem d_Mo_step_57 : decode prog_8_method_30_code 57 = .ok (.putfield 164, 3) := by decide +kernel
theorem d_Mo_step_60 : decode prog_8_method_30_code 60 = .ok (.iconst 1, 1) := by decide +kernel
theorem d_Mo_step_61 : decode prog_8_method_30_code 61 = .ok (.ireturn, 1) := by decide +kernel
def f_Mo_step (M : cs_Mem) (j : Nat) (x1 : Int32) : Int32 × cs_Mem :=
  cs_bd (f_Mo_out M x1 3) fun (r1 : Int32) =>
  if r1 = 0 then
    cs_bd (f_Mo_work M j) fun (u4 : cs_Mem) =>
    if (u4 84 x1.toNatClampNeg) < 0 then
      cs_bd (cs_up u4 j (upd (u4 j) 16 1)) fun (N7 : cs_Mem) =>
      cs_bd (f_Mo_waits N7 j x1) fun (r10 : Int32) =>
      if r10 = 0 then
        cs_bd (cs_up N7 76 (upd (N7 76) (N7 j 15).toNatClampNeg x1)) fun (N13 : cs_Mem) =>
        cs_bd (cs_up N13 j (upd (N13 j) 15 ((N13 j 15) + 1))) fun (N14 : cs_Mem) =>
        (1, N14)
      else
        (0, N7)
    else
      ((-1), u4)
  else
    ((-1), M)
def pre_Mo_step (M : cs_Mem) (j : Nat) (x1 : Int32) : Prop :=
  cs_bd (f_Mo_out M x1 3) fun (r1 : Int32) =>
  (r1 = 0 →
    (pre_Mo_work M j) ∧
    cs_bd (f_Mo_work M j) fun (u4 : cs_Mem) =>
    (vp_in x1 (cs_ln u4 84)) ∧
    ((u4 84 x1.toNatClampNeg) < 0 →
      cs_bd (cs_up u4 j (upd (u4 j) 16 1)) fun (N7 : cs_Mem) =>
      (pre_Mo_waits N7 j x1) ∧
      cs_bd (f_Mo_waits N7 j x1) fun (r10 : Int32) =>
      (r10 = 0 →
        (vp_in (N7 j 15) (cs_ln N7 76)) ∧
        True
      ) ∧ (¬ (r10 = 0) →
        True
      )
    ) ∧ (¬ ((u4 84 x1.toNatClampNeg) < 0) →
      True
    )
  ) ∧ (¬ (r1 = 0) →
    True
  )
set_option maxHeartbeats 4000000 in
set_option maxRecDepth 100000 in
theorem c_Mo_step (l : Launch) (D : va_G) (cA : Nat → ClassId) (ad : Nat → Nat) (M : cs_Mem) (j : Nat) (hj : cs_is 5 j) (x1 : Int32) (hp : pre_Mo_step M j x1) : cs_Ci l ⟨"ClassStarterModel", "step", "(I)I"⟩ prog_8_method_30_code 2 (some .int) ({ frames := 7, cells := 0, slots := 0, locals := 161 }) D cA ad M [.ref (ad j), .int x1] (f_Mo_step M j x1) := by
  refine cs_entry (by decide) (Nat.le_of_ble_eq_true rfl) (fun p e s m below meth c A ls hC hr hlk _ hw hl => ?_)
  have hx := hC.1
  have hb := hC.2.1
  have hl : lv_has ls 2 [(0, .ref (ad j)), (1, .int x1)] := hl
  generalize hF : f_Mo_step M j x1 = F
  have hf := hF.symm
  unfold f_Mo_step at hf
  unfold pre_Mo_step at hp
  refine lv_iload_n hx hb d_Mo_step_0 rfl (lv_at hl 1 rfl) ?_
  refine lv_iconst (v := 3) hx hb d_Mo_step_1 (by decide) ?_
  refine cs_ret_p hC hw (cs_runS (As := [.int x1, .int 3]) (rest := []) hC hw (c_Mo_out l D cA ad M x1 3 _) rfl rfl cw_Mo_94 ⟨Nat.le_of_ble_eq_true rfl, Nat.le_of_ble_eq_true rfl⟩ hl.1 rfl rfl (Nat.le_of_ble_eq_true rfl) d_Mo_step_2 ⟨Nat.zero_le _, Nat.zero_le _⟩) (fun r1 H locs er1 hw => ?_)
  have hp := cs_bdP er1 hp
  have hf := cs_bdE er1 hf
  refine lv_if_eq (tgt := 10) hx hb d_Mo_step_5 (by decide) (fun c2 => ?_) (fun c2 => ?_)
  · have hp := hp.1 c2
    have hf := hf.trans (if_pos c2)
    refine lv_aload_n hx hb d_Mo_step_10 rfl (lv_at hl 0 rfl) ?_
    have o3 := hp.1
    have hp := hp.2
    refine cs_ret_v hC hw (cs_runV (As := []) (rest := []) hC hw hj.2 (ci := 5) rfl rfl (cs_sg_is hj) (c_Mo_work l D cA ad M j hj o3 _) rfl rfl cw_Mo_173 ⟨Nat.le_of_ble_eq_true rfl, Nat.le_of_ble_eq_true rfl⟩ hl.1 rfl rfl (Nat.le_of_ble_eq_true rfl) d_Mo_step_11 ⟨Nat.zero_le _, Nat.zero_le _⟩) (fun u4 H locs eu4 hw => ?_)
    have hp := cs_bdP eu4 hp
    have hf := cs_bdE eu4 hf
    refine lv_aload_n hx hb d_Mo_step_14 rfl (lv_at hl 0 rfl) ?_
    refine gf_Mo_ended hC hw hj wd_573 d_Mo_step_15 ?_
    refine lv_iload_n hx hb d_Mo_step_18 rfl (lv_at hl 1 rfl) ?_
    have o5 := hp.1
    have hp := hp.2
    refine cs_iald hC hw is_84 o5 d_Mo_step_19 ?_
    refine lv_if_lt (tgt := 25) hx hb d_Mo_step_20 (by decide) (fun c6 => ?_) (fun c6 => ?_)
    · have hp := hp.1 c6
      have hf := hf.trans (if_pos c6)
      refine lv_aload_n hx hb d_Mo_step_25 rfl (lv_at hl 0 rfl) ?_
      refine lv_iconst (v := 1) hx hb d_Mo_step_26 (by decide) ?_
      refine pf_Mo_begun hC hw hj wd_565 (Or.inr rfl) d_Mo_step_27 (fun N7 H locs eN7 hw => ?_)
      have hp := cs_bdP eN7 hp
      have hf := cs_bdE eN7 hf
      refine lv_aload_n hx hb d_Mo_step_30 rfl (lv_at hl 0 rfl) ?_
      refine lv_iload_n hx hb d_Mo_step_31 rfl (lv_at hl 1 rfl) ?_
      have o9 := hp.1
      have hp := hp.2
      refine cs_ret_p hC hw (cs_runV (As := [.int x1]) (rest := []) hC hw hj.2 (ci := 5) rfl rfl (cs_sg_is hj) (c_Mo_waits l D cA ad N7 j hj x1 o9 _) rfl rfl cw_Mo_129 ⟨Nat.le_of_ble_eq_true rfl, Nat.le_of_ble_eq_true rfl⟩ hl.1 rfl rfl (Nat.le_of_ble_eq_true rfl) d_Mo_step_32 ⟨Nat.zero_le _, Nat.zero_le _⟩) (fun r10 H locs er10 hw => ?_)
      have hp := cs_bdP er10 hp
      have hf := cs_bdE er10 hf
      refine lv_if_eq (tgt := 40) hx hb d_Mo_step_35 (by decide) (fun c11 => ?_) (fun c11 => ?_)
      · have hp := hp.1 c11
        have hf := hf.trans (if_pos c11)
        refine lv_aload_n hx hb d_Mo_step_40 rfl (lv_at hl 0 rfl) ?_
        refine gf_Mo_made hC hw hj wd_563 d_Mo_step_41 ?_
        refine lv_aload_n hx hb d_Mo_step_44 rfl (lv_at hl 0 rfl) ?_
        refine gf_Mo_steps hC hw hj wd_564 d_Mo_step_45 ?_
        refine lv_iload_n hx hb d_Mo_step_48 rfl (lv_at hl 1 rfl) ?_
        have o12 := hp.1
        have hp := hp.2
        refine cs_iast hC hw is_76 o12 d_Mo_step_49 (fun N13 H locs eN13 hw => ?_)
        have hf := cs_bdE eN13 hf
        refine lv_aload_n hx hb d_Mo_step_50 rfl (lv_at hl 0 rfl) ?_
        refine lv_dup hx hb d_Mo_step_51 rfl ?_
        refine gf_Mo_steps hC hw hj wd_564 d_Mo_step_52 ?_
        refine lv_iconst (v := 1) hx hb d_Mo_step_55 (by decide) ?_
        refine lv_iadd hx hb d_Mo_step_56 ?_
        refine pf_Mo_steps hC hw hj wd_564 d_Mo_step_57 (fun N14 H locs eN14 hw => ?_)
        have hf := cs_bdE eN14 hf
        refine lv_iconst (v := 1) hx hb d_Mo_step_60 (by decide) ?_
        exact cs_iret hC hw hr hlk hf d_Mo_step_61
      · have hp := hp.2 c11
        have hf := hf.trans (if_neg c11)
        refine lv_iconst (v := 0) hx hb d_Mo_step_38 (by decide) ?_
        exact cs_iret hC hw hr hlk hf d_Mo_step_39
    · have hp := hp.2 c6
      have hf := hf.trans (if_neg c6)
      refine lv_iconst (v := (-1)) hx hb d_Mo_step_23 (by decide) ?_
      exact cs_iret hC hw hr hlk hf d_Mo_step_24
  · have hp := hp.2 c2
    have hf := hf.trans (if_neg c2)
    refine lv_iconst (v := (-1)) hx hb d_Mo_step_8 (by decide) ?_
    exact cs_iret hC hw hr hlk hf d_Mo_step_9
theorem d_Mo_reset_0 : decode prog_8_method_31_code 0 = .ok (.aload_n 0, 1) := by decide +kernel
theorem d_Mo_reset_1 : decode prog_8_method_31_code 1 = .ok (.getfield 164, 3) := by decide +kernel
theorem d_Mo_reset_4 : decode prog_8_method_31_code 4 = .ok (.istore_n 1, 1) := by decide +kernel
theorem d_Mo_reset_5 : decode prog_8_method_31_code 5 = .ok (.aload_n 0, 1) := by decide +kernel
theorem d_Mo_reset_6 : decode prog_8_method_31_code 6 = .ok (.iconst 0, 1) := by decide +kernel
theorem d_Mo_reset_7 : decode prog_8_method_31_code 7 = .ok (.putfield 164, 3) := by decide +kernel
theorem d_Mo_reset_10 : decode prog_8_method_31_code 10 = .ok (.aload_n 0, 1) := by decide +kernel
theorem d_Mo_reset_11 : decode prog_8_method_31_code 11 = .ok (.iconst 0, 1) := by decide +kernel
theorem d_Mo_reset_12 : decode prog_8_method_31_code 12 = .ok (.putfield 83, 3) := by decide +kernel
theorem d_Mo_reset_15 : decode prog_8_method_31_code 15 = .ok (.iload_n 1, 1) := by decide +kernel
theorem d_Mo_reset_16 : decode prog_8_method_31_code 16 = .ok (.ireturn, 1) := by decide +kernel
def f_Mo_reset (M : cs_Mem) (j : Nat) : Int32 × cs_Mem :=
  cs_bd (M j 15) fun (z1 : Int32) =>
  cs_bd (cs_up M j (upd (M j) 15 0)) fun (N2 : cs_Mem) =>
  cs_bd (cs_up N2 j (upd (N2 j) 16 0)) fun (N3 : cs_Mem) =>
  (z1, N3)
set_option maxHeartbeats 4000000 in
set_option maxRecDepth 100000 in
theorem c_Mo_reset (l : Launch) (D : va_G) (cA : Nat → ClassId) (ad : Nat → Nat) (M : cs_Mem) (j : Nat) (hj : cs_is 5 j) : cs_Ci l ⟨"ClassStarterModel", "reset", "()I"⟩ prog_8_method_31_code 2 (some .int) ({ frames := 0, cells := 0, slots := 0, locals := 0 }) D cA ad M [.ref (ad j)] (f_Mo_reset M j) := by
  refine cs_entry (by decide) (Nat.le_of_ble_eq_true rfl) (fun p e s m below meth c A ls hC hr hlk _ hw hl => ?_)
  have hx := hC.1
  have hb := hC.2.1
  have hl : lv_has ls 2 [(0, .ref (ad j))] := hl
  generalize hF : f_Mo_reset M j = F
  have hf := hF.symm
  unfold f_Mo_reset at hf
  refine lv_aload_n hx hb d_Mo_reset_0 rfl (lv_at hl 0 rfl) ?_
  refine gf_Mo_steps hC hw hj wd_564 d_Mo_reset_1 ?_
  refine lv_topi (fun z1 ez1 => ?_)
  have hf := cs_bdE ez1 hf
  refine lv_istore_n (lv' := [(1, .int z1), (0, .ref (ad j))]) hx hb d_Mo_reset_4 rfl hl (by decide) rfl (fun ls hl => ?_)
  refine lv_aload_n hx hb d_Mo_reset_5 rfl (lv_at hl 1 rfl) ?_
  refine lv_iconst (v := 0) hx hb d_Mo_reset_6 (by decide) ?_
  refine pf_Mo_steps hC hw hj wd_564 d_Mo_reset_7 (fun N2 H locs eN2 hw => ?_)
  have hf := cs_bdE eN2 hf
  refine lv_aload_n hx hb d_Mo_reset_10 rfl (lv_at hl 1 rfl) ?_
  refine lv_iconst (v := 0) hx hb d_Mo_reset_11 (by decide) ?_
  refine pf_Mo_begun hC hw hj wd_565 (Or.inl rfl) d_Mo_reset_12 (fun N3 H locs eN3 hw => ?_)
  have hf := cs_bdE eN3 hf
  refine lv_iload_n hx hb d_Mo_reset_15 rfl (lv_at hl 0 rfl) ?_
  exact cs_iret hC hw hr hlk hf d_Mo_reset_16
theorem d_Mo_state_0 : decode prog_8_method_32_code 0 = .ok (.iload_n 1, 1) := by decide +kernel
theorem d_Mo_state_1 : decode prog_8_method_32_code 1 = .ok (.aload_n 0, 1) := by decide +kernel
theorem d_Mo_state_2 : decode prog_8_method_32_code 2 = .ok (.getfield 87, 3) := by decide +kernel
theorem d_Mo_state_5 : decode prog_8_method_32_code 5 = .ok (.invokestatic 94, 3) := by decide +kernel
theorem d_Mo_state_8 : decode prog_8_method_32_code 8 = .ok (.ifCond .eq 5, 3) := by decide +kernel
theorem d_Mo_state_11 : decode prog_8_method_32_code 11 = .ok (.iconst (-1), 1) := by decide +kernel
theorem d_Mo_state_12 : decode prog_8_method_32_code 12 = .ok (.ireturn, 1) := by decide +kernel
theorem d_Mo_state_13 : decode prog_8_method_32_code 13 = .ok (.aload_n 0, 1) := by decide +kernel
theorem d_Mo_state_14 : decode prog_8_method_32_code 14 = .ok (.invokevirtual 173, 3) := by decide +kernel
theorem d_Mo_state_17 : decode prog_8_method_32_code 17 = .ok (.aload_n 0, 1) := by decide +kernel
theorem d_Mo_state_18 : decode prog_8_method_32_code 18 = .ok (.getfield 56, 3) := by decide +kernel
theorem d_Mo_state_21 : decode prog_8_method_32_code 21 = .ok (.iload_n 1, 1) := by decide +kernel
theorem d_Mo_state_22 : decode prog_8_method_32_code 22 = .ok (.iaload, 1) := by decide +kernel
theorem d_Mo_state_23 : decode prog_8_method_32_code 23 = .ok (.ireturn, 1) := by decide +kernel
def f_Mo_state (M : cs_Mem) (j : Nat) (x1 : Int32) : Int32 × cs_Mem :=
  cs_bd (f_Mo_out M x1 (M j 0)) fun (r1 : Int32) =>
  if r1 = 0 then
    cs_bd (f_Mo_work M j) fun (u4 : cs_Mem) =>
    (u4 78 x1.toNatClampNeg, u4)
  else
    ((-1), M)
def pre_Mo_state (M : cs_Mem) (j : Nat) (x1 : Int32) : Prop :=
  cs_bd (f_Mo_out M x1 (M j 0)) fun (r1 : Int32) =>
  (r1 = 0 →
    (pre_Mo_work M j) ∧
    cs_bd (f_Mo_work M j) fun (u4 : cs_Mem) =>
    (vp_in x1 (cs_ln u4 78)) ∧
    True
  ) ∧ (¬ (r1 = 0) →
    True
  )
set_option maxHeartbeats 4000000 in
set_option maxRecDepth 100000 in
theorem c_Mo_state (l : Launch) (D : va_G) (cA : Nat → ClassId) (ad : Nat → Nat) (M : cs_Mem) (j : Nat) (hj : cs_is 5 j) (x1 : Int32) (hp : pre_Mo_state M j x1) : cs_Ci l ⟨"ClassStarterModel", "state", "(I)I"⟩ prog_8_method_32_code 2 (some .int) ({ frames := 7, cells := 0, slots := 0, locals := 161 }) D cA ad M [.ref (ad j), .int x1] (f_Mo_state M j x1) := by
  refine cs_entry (by decide) (Nat.le_of_ble_eq_true rfl) (fun p e s m below meth c A ls hC hr hlk _ hw hl => ?_)
  have hx := hC.1
  have hb := hC.2.1
  have hl : lv_has ls 2 [(0, .ref (ad j)), (1, .int x1)] := hl
  generalize hF : f_Mo_state M j x1 = F
  have hf := hF.symm
  unfold f_Mo_state at hf
  unfold pre_Mo_state at hp
  refine lv_iload_n hx hb d_Mo_state_0 rfl (lv_at hl 1 rfl) ?_
  refine lv_aload_n hx hb d_Mo_state_1 rfl (lv_at hl 0 rfl) ?_
  refine gf_Mo_classes hC hw hj wd_549 d_Mo_state_2 ?_
  refine cs_ret_p hC hw (cs_runS (As := [.int x1, .int (M j 0)]) (rest := []) hC hw (c_Mo_out l D cA ad M x1 (M j 0) _) rfl rfl cw_Mo_94 ⟨Nat.le_of_ble_eq_true rfl, Nat.le_of_ble_eq_true rfl⟩ hl.1 rfl rfl (Nat.le_of_ble_eq_true rfl) d_Mo_state_5 ⟨Nat.zero_le _, Nat.zero_le _⟩) (fun r1 H locs er1 hw => ?_)
  have hp := cs_bdP er1 hp
  have hf := cs_bdE er1 hf
  refine lv_if_eq (tgt := 13) hx hb d_Mo_state_8 (by decide) (fun c2 => ?_) (fun c2 => ?_)
  · have hp := hp.1 c2
    have hf := hf.trans (if_pos c2)
    refine lv_aload_n hx hb d_Mo_state_13 rfl (lv_at hl 0 rfl) ?_
    have o3 := hp.1
    have hp := hp.2
    refine cs_ret_v hC hw (cs_runV (As := []) (rest := []) hC hw hj.2 (ci := 5) rfl rfl (cs_sg_is hj) (c_Mo_work l D cA ad M j hj o3 _) rfl rfl cw_Mo_173 ⟨Nat.le_of_ble_eq_true rfl, Nat.le_of_ble_eq_true rfl⟩ hl.1 rfl rfl (Nat.le_of_ble_eq_true rfl) d_Mo_state_14 ⟨Nat.zero_le _, Nat.zero_le _⟩) (fun u4 H locs eu4 hw => ?_)
    have hp := cs_bdP eu4 hp
    have hf := cs_bdE eu4 hf
    refine lv_aload_n hx hb d_Mo_state_17 rfl (lv_at hl 0 rfl) ?_
    refine gf_Mo_state hC hw hj wd_567 d_Mo_state_18 ?_
    refine lv_iload_n hx hb d_Mo_state_21 rfl (lv_at hl 1 rfl) ?_
    have o5 := hp.1
    have hp := hp.2
    refine cs_iald hC hw is_78 o5 d_Mo_state_22 ?_
    exact cs_iret hC hw hr hlk hf d_Mo_state_23
  · have hp := hp.2 c2
    have hf := hf.trans (if_neg c2)
    refine lv_iconst (v := (-1)) hx hb d_Mo_state_11 (by decide) ?_
    exact cs_iret hC hw hr hlk hf d_Mo_state_12
theorem d_Mo_statics_0 : decode prog_8_method_33_code 0 = .ok (.iload_n 1, 1) := by decide +kernel
theorem d_Mo_statics_1 : decode prog_8_method_33_code 1 = .ok (.aload_n 0, 1) := by decide +kernel
theorem d_Mo_statics_2 : decode prog_8_method_33_code 2 = .ok (.getfield 87, 3) := by decide +kernel
theorem d_Mo_statics_5 : decode prog_8_method_33_code 5 = .ok (.invokestatic 94, 3) := by decide +kernel
theorem d_Mo_statics_8 : decode prog_8_method_33_code 8 = .ok (.ifCond .ne 11, 3) := by decide +kernel
theorem d_Mo_statics_11 : decode prog_8_method_33_code 11 = .ok (.iload_n 2, 1) := by decide +kernel
theorem d_Mo_statics_12 : decode prog_8_method_33_code 12 = .ok (.iconst 2, 1) := by decide +kernel
theorem d_Mo_statics_13 : decode prog_8_method_33_code 13 = .ok (.invokestatic 94, 3) := by decide +kernel
theorem d_Mo_statics_16 : decode prog_8_method_33_code 16 = .ok (.ifCond .eq 7, 3) := by decide +kernel
theorem d_Mo_statics_19 : decode prog_8_method_33_code 19 = .ok (.ldc2_w 176, 3) := by decide +kernel
theorem d_Mo_statics_22 : decode prog_8_method_33_code 22 = .ok (.lreturn, 1) := by decide +kernel
theorem d_Mo_statics_23 : decode prog_8_method_33_code 23 = .ok (.aload_n 0, 1) := by decide +kernel
theorem d_Mo_statics_24 : decode prog_8_method_33_code 24 = .ok (.invokevirtual 173, 3) := by decide +kernel
theorem d_Mo_statics_27 : decode prog_8_method_33_code 27 = .ok (.aload_n 0, 1) := by decide +kernel
theorem d_Mo_statics_28 : decode prog_8_method_33_code 28 = .ok (.getfield 59, 3) := by decide +kernel
theorem d_Mo_statics_31 : decode prog_8_method_33_code 31 = .ok (.iconst 2, 1) := by decide +kernel
theorem d_Mo_statics_32 : decode prog_8_method_33_code 32 = .ok (.iload_n 1, 1) := by decide +kernel
theorem d_Mo_statics_33 : decode prog_8_method_33_code 33 = .ok (.imul, 1) := by decide +kernel
theorem d_Mo_statics_34 : decode prog_8_method_33_code 34 = .ok (.iload_n 2, 1) := by decide +kernel
theorem d_Mo_statics_35 : decode prog_8_method_33_code 35 = .ok (.iadd, 1) := by decide +kernel
theorem d_Mo_statics_36 : decode prog_8_method_33_code 36 = .ok (.iaload, 1) := by decide +kernel
theorem d_Mo_statics_37 : decode prog_8_method_33_code 37 = .ok (.i2l, 1) := by decide +kernel
theorem d_Mo_statics_38 : decode prog_8_method_33_code 38 = .ok (.lreturn, 1) := by decide +kernel
def f_Mo_statics_J19 (M : cs_Mem)  : Int64 × cs_Mem :=
  (1000000000000, M)
def f_Mo_statics (M : cs_Mem) (j : Nat) (x1 : Int32) (x2 : Int32) : Int64 × cs_Mem :=
  cs_bd (f_Mo_out M x1 (M j 0)) fun (r1 : Int32) =>
  if r1 = 0 then
    cs_bd (f_Mo_out M x2 2) fun (r3 : Int32) =>
    if r3 = 0 then
      cs_bd (f_Mo_work M j) fun (u6 : cs_Mem) =>
      ((u6 79 ((2 * x1) + x2).toNatClampNeg).toInt64, u6)
    else
      f_Mo_statics_J19 M 
  else
    f_Mo_statics_J19 M 
def pre_Mo_statics (M : cs_Mem) (j : Nat) (x1 : Int32) (x2 : Int32) : Prop :=
  cs_bd (f_Mo_out M x1 (M j 0)) fun (r1 : Int32) =>
  (r1 = 0 →
    cs_bd (f_Mo_out M x2 2) fun (r3 : Int32) =>
    (r3 = 0 →
      (pre_Mo_work M j) ∧
      cs_bd (f_Mo_work M j) fun (u6 : cs_Mem) =>
      (vp_in ((2 * x1) + x2) (cs_ln u6 79)) ∧
      True
    ) ∧ (¬ (r3 = 0) →
      True
    )
  ) ∧ (¬ (r1 = 0) →
    True
  )
set_option maxHeartbeats 4000000 in
set_option maxRecDepth 100000 in
theorem w_Mo_statics_J19 {p : Program} {l : Launch} {e : Env} {s : State} {m : MethodId} {args : Array Value} {below : List Frame} {meth : Method} {c : Code} {D : va_G} {cA : Nat → ClassId} {A : Nat → Prop} {ad : Nat → Nat} {F : Int64 × cs_Mem} (hC : cs_Ctx p s m args c prog_8_method_33_code 3 "ClassStarterModel" D cA A) (hr : meth.sig.returnType = (some .long)) (hlk : meth.locks = false) : ∀ (M : cs_Mem) (H : Heap) (locs : List Loc) (ls : Array Slot), cs_Wd D cA ad M A s H locs → lv_has ls 3 [] → F = f_Mo_statics_J19 M  → W p l e ({ frames := 7, cells := 0, slots := 0, locals := 161 }) s m args below meth c H locs 0 0 (MQ below (cs_Ql D cA ad F A) args s 0 0 A) (F0 m 19 ls []) := by
  have hx := hC.1
  have hb := hC.2.1
  intro M  H locs ls hw hl  hf
  unfold f_Mo_statics_J19 at hf
  refine lv_ldc2 (v := 1000000000000) hx hb hC.2.2.2.1 (hC.2.2.2.2.1 _ wd_762) d_Mo_statics_19 ?_
  exact cs_lret hC hw hr hlk hf d_Mo_statics_22
set_option maxHeartbeats 4000000 in
set_option maxRecDepth 100000 in
theorem c_Mo_statics (l : Launch) (D : va_G) (cA : Nat → ClassId) (ad : Nat → Nat) (M : cs_Mem) (j : Nat) (hj : cs_is 5 j) (x1 : Int32) (x2 : Int32) (hp : pre_Mo_statics M j x1 x2) : cs_Cl l ⟨"ClassStarterModel", "statics", "(II)J"⟩ prog_8_method_33_code 3 (some .long) ({ frames := 7, cells := 0, slots := 0, locals := 161 }) D cA ad M [.ref (ad j), .int x1, .int x2] (f_Mo_statics M j x1 x2) := by
  refine cs_entry (by decide) (Nat.le_of_ble_eq_true rfl) (fun p e s m below meth c A ls hC hr hlk _ hw hl => ?_)
  have hx := hC.1
  have hb := hC.2.1
  have hl : lv_has ls 3 [(0, .ref (ad j)), (1, .int x1), (2, .int x2)] := hl
  generalize hF : f_Mo_statics M j x1 x2 = F
  have hf := hF.symm
  unfold f_Mo_statics at hf
  unfold pre_Mo_statics at hp
  refine lv_iload_n hx hb d_Mo_statics_0 rfl (lv_at hl 1 rfl) ?_
  refine lv_aload_n hx hb d_Mo_statics_1 rfl (lv_at hl 0 rfl) ?_
  refine gf_Mo_classes hC hw hj wd_549 d_Mo_statics_2 ?_
  refine cs_ret_p hC hw (cs_runS (As := [.int x1, .int (M j 0)]) (rest := []) hC hw (c_Mo_out l D cA ad M x1 (M j 0) _) rfl rfl cw_Mo_94 ⟨Nat.le_of_ble_eq_true rfl, Nat.le_of_ble_eq_true rfl⟩ hl.1 rfl rfl (Nat.le_of_ble_eq_true rfl) d_Mo_statics_5 ⟨Nat.zero_le _, Nat.zero_le _⟩) (fun r1 H locs er1 hw => ?_)
  have hp := cs_bdP er1 hp
  have hf := cs_bdE er1 hf
  refine lv_if_ne (tgt := 19) hx hb d_Mo_statics_8 (by decide) (fun c2 => ?_) (fun c2 => ?_)
  · have hp := hp.2 c2
    have hf := hf.trans (if_neg c2)
    exact w_Mo_statics_J19 hC hr hlk M  _ _ ls hw (lv_sub hl [] rfl) hf
  · have hp := hp.1 c2
    have hf := hf.trans (if_pos c2)
    refine lv_iload_n hx hb d_Mo_statics_11 rfl (lv_at hl 2 rfl) ?_
    refine lv_iconst (v := 2) hx hb d_Mo_statics_12 (by decide) ?_
    refine cs_ret_p hC hw (cs_runS (As := [.int x2, .int 2]) (rest := []) hC hw (c_Mo_out l D cA ad M x2 2 _) rfl rfl cw_Mo_94 ⟨Nat.le_of_ble_eq_true rfl, Nat.le_of_ble_eq_true rfl⟩ hl.1 rfl rfl (Nat.le_of_ble_eq_true rfl) d_Mo_statics_13 ⟨Nat.zero_le _, Nat.zero_le _⟩) (fun r3 H locs er3 hw => ?_)
    have hp := cs_bdP er3 hp
    have hf := cs_bdE er3 hf
    refine lv_if_eq (tgt := 23) hx hb d_Mo_statics_16 (by decide) (fun c4 => ?_) (fun c4 => ?_)
    · have hp := hp.1 c4
      have hf := hf.trans (if_pos c4)
      refine lv_aload_n hx hb d_Mo_statics_23 rfl (lv_at hl 0 rfl) ?_
      have o5 := hp.1
      have hp := hp.2
      refine cs_ret_v hC hw (cs_runV (As := []) (rest := []) hC hw hj.2 (ci := 5) rfl rfl (cs_sg_is hj) (c_Mo_work l D cA ad M j hj o5 _) rfl rfl cw_Mo_173 ⟨Nat.le_of_ble_eq_true rfl, Nat.le_of_ble_eq_true rfl⟩ hl.1 rfl rfl (Nat.le_of_ble_eq_true rfl) d_Mo_statics_24 ⟨Nat.zero_le _, Nat.zero_le _⟩) (fun u6 H locs eu6 hw => ?_)
      have hp := cs_bdP eu6 hp
      have hf := cs_bdE eu6 hf
      refine lv_aload_n hx hb d_Mo_statics_27 rfl (lv_at hl 0 rfl) ?_
      refine gf_Mo_statics hC hw hj wd_568 d_Mo_statics_28 ?_
      refine lv_iconst (v := 2) hx hb d_Mo_statics_31 (by decide) ?_
      refine lv_iload_n hx hb d_Mo_statics_32 rfl (lv_at hl 1 rfl) ?_
      refine lv_imul hx hb d_Mo_statics_33 ?_
      refine lv_iload_n hx hb d_Mo_statics_34 rfl (lv_at hl 2 rfl) ?_
      refine lv_iadd hx hb d_Mo_statics_35 ?_
      have o7 := hp.1
      have hp := hp.2
      refine cs_iald hC hw is_79 o7 d_Mo_statics_36 ?_
      refine lv_i2l hx hb d_Mo_statics_37 rfl ?_
      exact cs_lret hC hw hr hlk hf d_Mo_statics_38
    · have hp := hp.2 c4
      have hf := hf.trans (if_neg c4)
      exact w_Mo_statics_J19 hC hr hlk M  _ _ ls hw (lv_sub hl [] rfl) hf
theorem d_Mo_result_0 : decode prog_8_method_34_code 0 = .ok (.iload_n 1, 1) := by decide +kernel
theorem d_Mo_result_1 : decode prog_8_method_34_code 1 = .ok (.iconst 3, 1) := by decide +kernel
theorem d_Mo_result_2 : decode prog_8_method_34_code 2 = .ok (.invokestatic 94, 3) := by decide +kernel
theorem d_Mo_result_5 : decode prog_8_method_34_code 5 = .ok (.ifCond .eq 5, 3) := by decide +kernel
theorem d_Mo_result_8 : decode prog_8_method_34_code 8 = .ok (.iconst (-1), 1) := by decide +kernel
theorem d_Mo_result_9 : decode prog_8_method_34_code 9 = .ok (.ireturn, 1) := by decide +kernel
theorem d_Mo_result_10 : decode prog_8_method_34_code 10 = .ok (.aload_n 0, 1) := by decide +kernel
theorem d_Mo_result_11 : decode prog_8_method_34_code 11 = .ok (.invokevirtual 173, 3) := by decide +kernel
theorem d_Mo_result_14 : decode prog_8_method_34_code 14 = .ok (.aload_n 0, 1) := by decide +kernel
theorem d_Mo_result_15 : decode prog_8_method_34_code 15 = .ok (.iload_n 1, 1) := by decide +kernel
theorem d_Mo_result_16 : decode prog_8_method_34_code 16 = .ok (.invokevirtual 178, 3) := by decide +kernel
theorem d_Mo_result_19 : decode prog_8_method_34_code 19 = .ok (.ireturn, 1) := by decide +kernel
def f_Mo_result (M : cs_Mem) (j : Nat) (x1 : Int32) : Int32 × cs_Mem :=
  cs_bd (f_Mo_out M x1 3) fun (r1 : Int32) =>
  if r1 = 0 then
    cs_bd (f_Mo_work M j) fun (u4 : cs_Mem) =>
    cs_bd (f_Mo_resultNow u4 j x1) fun (r6 : Int32) =>
    (r6, u4)
  else
    ((-1), M)
def pre_Mo_result (M : cs_Mem) (j : Nat) (x1 : Int32) : Prop :=
  cs_bd (f_Mo_out M x1 3) fun (r1 : Int32) =>
  (r1 = 0 →
    (pre_Mo_work M j) ∧
    cs_bd (f_Mo_work M j) fun (u4 : cs_Mem) =>
    (pre_Mo_resultNow u4 j x1) ∧
    True
  ) ∧ (¬ (r1 = 0) →
    True
  )
set_option maxHeartbeats 4000000 in
set_option maxRecDepth 100000 in
theorem c_Mo_result (l : Launch) (D : va_G) (cA : Nat → ClassId) (ad : Nat → Nat) (M : cs_Mem) (j : Nat) (hj : cs_is 5 j) (x1 : Int32) (hp : pre_Mo_result M j x1) : cs_Ci l ⟨"ClassStarterModel", "result", "(I)I"⟩ prog_8_method_34_code 2 (some .int) ({ frames := 7, cells := 0, slots := 0, locals := 161 }) D cA ad M [.ref (ad j), .int x1] (f_Mo_result M j x1) := by
  refine cs_entry (by decide) (Nat.le_of_ble_eq_true rfl) (fun p e s m below meth c A ls hC hr hlk _ hw hl => ?_)
  have hx := hC.1
  have hb := hC.2.1
  have hl : lv_has ls 2 [(0, .ref (ad j)), (1, .int x1)] := hl
  generalize hF : f_Mo_result M j x1 = F
  have hf := hF.symm
  unfold f_Mo_result at hf
  unfold pre_Mo_result at hp
  refine lv_iload_n hx hb d_Mo_result_0 rfl (lv_at hl 1 rfl) ?_
  refine lv_iconst (v := 3) hx hb d_Mo_result_1 (by decide) ?_
  refine cs_ret_p hC hw (cs_runS (As := [.int x1, .int 3]) (rest := []) hC hw (c_Mo_out l D cA ad M x1 3 _) rfl rfl cw_Mo_94 ⟨Nat.le_of_ble_eq_true rfl, Nat.le_of_ble_eq_true rfl⟩ hl.1 rfl rfl (Nat.le_of_ble_eq_true rfl) d_Mo_result_2 ⟨Nat.zero_le _, Nat.zero_le _⟩) (fun r1 H locs er1 hw => ?_)
  have hp := cs_bdP er1 hp
  have hf := cs_bdE er1 hf
  refine lv_if_eq (tgt := 10) hx hb d_Mo_result_5 (by decide) (fun c2 => ?_) (fun c2 => ?_)
  · have hp := hp.1 c2
    have hf := hf.trans (if_pos c2)
    refine lv_aload_n hx hb d_Mo_result_10 rfl (lv_at hl 0 rfl) ?_
    have o3 := hp.1
    have hp := hp.2
    refine cs_ret_v hC hw (cs_runV (As := []) (rest := []) hC hw hj.2 (ci := 5) rfl rfl (cs_sg_is hj) (c_Mo_work l D cA ad M j hj o3 _) rfl rfl cw_Mo_173 ⟨Nat.le_of_ble_eq_true rfl, Nat.le_of_ble_eq_true rfl⟩ hl.1 rfl rfl (Nat.le_of_ble_eq_true rfl) d_Mo_result_11 ⟨Nat.zero_le _, Nat.zero_le _⟩) (fun u4 H locs eu4 hw => ?_)
    have hp := cs_bdP eu4 hp
    have hf := cs_bdE eu4 hf
    refine lv_aload_n hx hb d_Mo_result_14 rfl (lv_at hl 0 rfl) ?_
    refine lv_iload_n hx hb d_Mo_result_15 rfl (lv_at hl 1 rfl) ?_
    have o5 := hp.1
    have hp := hp.2
    refine cs_ret_p hC hw (cs_runV (As := [.int x1]) (rest := []) hC hw hj.2 (ci := 5) rfl rfl (cs_sg_is hj) (c_Mo_resultNow l D cA ad u4 j hj x1 o5 _) rfl rfl cw_Mo_178 ⟨Nat.le_of_ble_eq_true rfl, Nat.le_of_ble_eq_true rfl⟩ hl.1 rfl rfl (Nat.le_of_ble_eq_true rfl) d_Mo_result_16 ⟨Nat.zero_le _, Nat.zero_le _⟩) (fun r6 H locs er6 hw => ?_)
    have hf := cs_bdE er6 hf
    exact cs_iret hC hw hr hlk hf d_Mo_result_19
  · have hp := hp.2 c2
    have hf := hf.trans (if_neg c2)
    refine lv_iconst (v := (-1)) hx hb d_Mo_result_8 (by decide) ?_
    exact cs_iret hC hw hr hlk hf d_Mo_result_9
theorem d_Mo_inside_0 : decode prog_8_method_35_code 0 = .ok (.iload_n 1, 1) := by decide +kernel
theorem d_Mo_inside_1 : decode prog_8_method_35_code 1 = .ok (.iconst 3, 1) := by decide +kernel
theorem d_Mo_inside_2 : decode prog_8_method_35_code 2 = .ok (.invokestatic 94, 3) := by decide +kernel
theorem d_Mo_inside_5 : decode prog_8_method_35_code 5 = .ok (.ifCond .eq 5, 3) := by decide +kernel
theorem d_Mo_inside_8 : decode prog_8_method_35_code 8 = .ok (.iconst (-1), 1) := by decide +kernel
theorem d_Mo_inside_9 : decode prog_8_method_35_code 9 = .ok (.ireturn, 1) := by decide +kernel
theorem d_Mo_inside_10 : decode prog_8_method_35_code 10 = .ok (.aload_n 0, 1) := by decide +kernel
theorem d_Mo_inside_11 : decode prog_8_method_35_code 11 = .ok (.invokevirtual 173, 3) := by decide +kernel
theorem d_Mo_inside_14 : decode prog_8_method_35_code 14 = .ok (.aload_n 0, 1) := by decide +kernel
theorem d_Mo_inside_15 : decode prog_8_method_35_code 15 = .ok (.getfield 62, 3) := by decide +kernel
theorem d_Mo_inside_18 : decode prog_8_method_35_code 18 = .ok (.aload_n 0, 1) := by decide +kernel
theorem d_Mo_inside_19 : decode prog_8_method_35_code 19 = .ok (.iload_n 1, 1) := by decide +kernel
theorem d_Mo_inside_20 : decode prog_8_method_35_code 20 = .ok (.invokevirtual 113, 3) := by decide +kernel
theorem d_Mo_inside_23 : decode prog_8_method_35_code 23 = .ok (.iaload, 1) := by decide +kernel
theorem d_Mo_inside_24 : decode prog_8_method_35_code 24 = .ok (.ireturn, 1) := by decide +kernel
def f_Mo_inside (M : cs_Mem) (j : Nat) (x1 : Int32) : Int32 × cs_Mem :=
  cs_bd (f_Mo_out M x1 3) fun (r1 : Int32) =>
  if r1 = 0 then
    cs_bd (f_Mo_work M j) fun (u4 : cs_Mem) =>
    cs_bd (f_Mo_top u4 j x1) fun (r6 : Int32) =>
    (u4 80 r6.toNatClampNeg, u4)
  else
    ((-1), M)
def pre_Mo_inside (M : cs_Mem) (j : Nat) (x1 : Int32) : Prop :=
  cs_bd (f_Mo_out M x1 3) fun (r1 : Int32) =>
  (r1 = 0 →
    (pre_Mo_work M j) ∧
    cs_bd (f_Mo_work M j) fun (u4 : cs_Mem) =>
    (pre_Mo_top u4 j x1) ∧
    cs_bd (f_Mo_top u4 j x1) fun (r6 : Int32) =>
    (vp_in r6 (cs_ln u4 80)) ∧
    True
  ) ∧ (¬ (r1 = 0) →
    True
  )
set_option maxHeartbeats 4000000 in
set_option maxRecDepth 100000 in
theorem c_Mo_inside (l : Launch) (D : va_G) (cA : Nat → ClassId) (ad : Nat → Nat) (M : cs_Mem) (j : Nat) (hj : cs_is 5 j) (x1 : Int32) (hp : pre_Mo_inside M j x1) : cs_Ci l ⟨"ClassStarterModel", "inside", "(I)I"⟩ prog_8_method_35_code 2 (some .int) ({ frames := 7, cells := 0, slots := 0, locals := 161 }) D cA ad M [.ref (ad j), .int x1] (f_Mo_inside M j x1) := by
  refine cs_entry (by decide) (Nat.le_of_ble_eq_true rfl) (fun p e s m below meth c A ls hC hr hlk _ hw hl => ?_)
  have hx := hC.1
  have hb := hC.2.1
  have hl : lv_has ls 2 [(0, .ref (ad j)), (1, .int x1)] := hl
  generalize hF : f_Mo_inside M j x1 = F
  have hf := hF.symm
  unfold f_Mo_inside at hf
  unfold pre_Mo_inside at hp
  refine lv_iload_n hx hb d_Mo_inside_0 rfl (lv_at hl 1 rfl) ?_
  refine lv_iconst (v := 3) hx hb d_Mo_inside_1 (by decide) ?_
  refine cs_ret_p hC hw (cs_runS (As := [.int x1, .int 3]) (rest := []) hC hw (c_Mo_out l D cA ad M x1 3 _) rfl rfl cw_Mo_94 ⟨Nat.le_of_ble_eq_true rfl, Nat.le_of_ble_eq_true rfl⟩ hl.1 rfl rfl (Nat.le_of_ble_eq_true rfl) d_Mo_inside_2 ⟨Nat.zero_le _, Nat.zero_le _⟩) (fun r1 H locs er1 hw => ?_)
  have hp := cs_bdP er1 hp
  have hf := cs_bdE er1 hf
  refine lv_if_eq (tgt := 10) hx hb d_Mo_inside_5 (by decide) (fun c2 => ?_) (fun c2 => ?_)
  · have hp := hp.1 c2
    have hf := hf.trans (if_pos c2)
    refine lv_aload_n hx hb d_Mo_inside_10 rfl (lv_at hl 0 rfl) ?_
    have o3 := hp.1
    have hp := hp.2
    refine cs_ret_v hC hw (cs_runV (As := []) (rest := []) hC hw hj.2 (ci := 5) rfl rfl (cs_sg_is hj) (c_Mo_work l D cA ad M j hj o3 _) rfl rfl cw_Mo_173 ⟨Nat.le_of_ble_eq_true rfl, Nat.le_of_ble_eq_true rfl⟩ hl.1 rfl rfl (Nat.le_of_ble_eq_true rfl) d_Mo_inside_11 ⟨Nat.zero_le _, Nat.zero_le _⟩) (fun u4 H locs eu4 hw => ?_)
    have hp := cs_bdP eu4 hp
    have hf := cs_bdE eu4 hf
    refine lv_aload_n hx hb d_Mo_inside_14 rfl (lv_at hl 0 rfl) ?_
    refine gf_Mo_frame hC hw hj wd_569 d_Mo_inside_15 ?_
    refine lv_aload_n hx hb d_Mo_inside_18 rfl (lv_at hl 0 rfl) ?_
    refine lv_iload_n hx hb d_Mo_inside_19 rfl (lv_at hl 1 rfl) ?_
    have o5 := hp.1
    have hp := hp.2
    refine cs_ret_p hC hw (cs_runV (As := [.int x1]) (rest := [.ref (ad 80)]) hC hw hj.2 (ci := 5) rfl rfl (cs_sg_is hj) (c_Mo_top l D cA ad u4 j hj x1 o5 _) rfl rfl cw_Mo_113 ⟨Nat.le_of_ble_eq_true rfl, Nat.le_of_ble_eq_true rfl⟩ hl.1 rfl rfl (Nat.le_of_ble_eq_true rfl) d_Mo_inside_20 ⟨Nat.zero_le _, Nat.zero_le _⟩) (fun r6 H locs er6 hw => ?_)
    have hp := cs_bdP er6 hp
    have hf := cs_bdE er6 hf
    have o7 := hp.1
    have hp := hp.2
    refine cs_iald hC hw is_80 o7 d_Mo_inside_23 ?_
    exact cs_iret hC hw hr hlk hf d_Mo_inside_24
  · have hp := hp.2 c2
    have hf := hf.trans (if_neg c2)
    refine lv_iconst (v := (-1)) hx hb d_Mo_inside_8 (by decide) ?_
    exact cs_iret hC hw hr hlk hf d_Mo_inside_9
theorem d_Mo_waitsFor_0 : decode prog_8_method_36_code 0 = .ok (.iload_n 1, 1) := by decide +kernel
theorem d_Mo_waitsFor_1 : decode prog_8_method_36_code 1 = .ok (.iconst 3, 1) := by decide +kernel
theorem d_Mo_waitsFor_2 : decode prog_8_method_36_code 2 = .ok (.invokestatic 94, 3) := by decide +kernel
theorem d_Mo_waitsFor_5 : decode prog_8_method_36_code 5 = .ok (.ifCond .eq 5, 3) := by decide +kernel
theorem d_Mo_waitsFor_8 : decode prog_8_method_36_code 8 = .ok (.iconst (-1), 1) := by decide +kernel
theorem d_Mo_waitsFor_9 : decode prog_8_method_36_code 9 = .ok (.ireturn, 1) := by decide +kernel
theorem d_Mo_waitsFor_10 : decode prog_8_method_36_code 10 = .ok (.aload_n 0, 1) := by decide +kernel
theorem d_Mo_waitsFor_11 : decode prog_8_method_36_code 11 = .ok (.invokevirtual 173, 3) := by decide +kernel
theorem d_Mo_waitsFor_14 : decode prog_8_method_36_code 14 = .ok (.aload_n 0, 1) := by decide +kernel
theorem d_Mo_waitsFor_15 : decode prog_8_method_36_code 15 = .ok (.iload_n 1, 1) := by decide +kernel
theorem d_Mo_waitsFor_16 : decode prog_8_method_36_code 16 = .ok (.invokevirtual 129, 3) := by decide +kernel
theorem d_Mo_waitsFor_19 : decode prog_8_method_36_code 19 = .ok (.ifCond .eq 11, 3) := by decide +kernel
theorem d_Mo_waitsFor_22 : decode prog_8_method_36_code 22 = .ok (.aload_n 0, 1) := by decide +kernel
theorem d_Mo_waitsFor_23 : decode prog_8_method_36_code 23 = .ok (.iload_n 1, 1) := by decide +kernel
theorem d_Mo_waitsFor_24 : decode prog_8_method_36_code 24 = .ok (.invokevirtual 126, 3) := by decide +kernel
theorem d_Mo_waitsFor_27 : decode prog_8_method_36_code 27 = .ok (.goto 4, 3) := by decide +kernel
theorem d_Mo_waitsFor_30 : decode prog_8_method_36_code 30 = .ok (.iconst (-1), 1) := by decide +kernel
theorem d_Mo_waitsFor_31 : decode prog_8_method_36_code 31 = .ok (.ireturn, 1) := by decide +kernel
def f_Mo_waitsFor (M : cs_Mem) (j : Nat) (x1 : Int32) : Int32 × cs_Mem :=
  cs_bd (f_Mo_out M x1 3) fun (r1 : Int32) =>
  if r1 = 0 then
    cs_bd (f_Mo_work M j) fun (u4 : cs_Mem) =>
    cs_bd (f_Mo_waits u4 j x1) fun (r6 : Int32) =>
    if r6 = 0 then
      ((-1), u4)
    else
      cs_bd (f_Mo_usedNow u4 j x1) fun (r9 : Int32) =>
      (r9, u4)
  else
    ((-1), M)
def pre_Mo_waitsFor (M : cs_Mem) (j : Nat) (x1 : Int32) : Prop :=
  cs_bd (f_Mo_out M x1 3) fun (r1 : Int32) =>
  (r1 = 0 →
    (pre_Mo_work M j) ∧
    cs_bd (f_Mo_work M j) fun (u4 : cs_Mem) =>
    (pre_Mo_waits u4 j x1) ∧
    cs_bd (f_Mo_waits u4 j x1) fun (r6 : Int32) =>
    (r6 = 0 →
      True
    ) ∧ (¬ (r6 = 0) →
      (pre_Mo_usedNow u4 j x1) ∧
      True
    )
  ) ∧ (¬ (r1 = 0) →
    True
  )
set_option maxHeartbeats 4000000 in
set_option maxRecDepth 100000 in
theorem c_Mo_waitsFor (l : Launch) (D : va_G) (cA : Nat → ClassId) (ad : Nat → Nat) (M : cs_Mem) (j : Nat) (hj : cs_is 5 j) (x1 : Int32) (hp : pre_Mo_waitsFor M j x1) : cs_Ci l ⟨"ClassStarterModel", "waitsFor", "(I)I"⟩ prog_8_method_36_code 2 (some .int) ({ frames := 7, cells := 0, slots := 0, locals := 161 }) D cA ad M [.ref (ad j), .int x1] (f_Mo_waitsFor M j x1) := by
  refine cs_entry (by decide) (Nat.le_of_ble_eq_true rfl) (fun p e s m below meth c A ls hC hr hlk _ hw hl => ?_)
  have hx := hC.1
  have hb := hC.2.1
  have hl : lv_has ls 2 [(0, .ref (ad j)), (1, .int x1)] := hl
  generalize hF : f_Mo_waitsFor M j x1 = F
  have hf := hF.symm
  unfold f_Mo_waitsFor at hf
  unfold pre_Mo_waitsFor at hp
  refine lv_iload_n hx hb d_Mo_waitsFor_0 rfl (lv_at hl 1 rfl) ?_
  refine lv_iconst (v := 3) hx hb d_Mo_waitsFor_1 (by decide) ?_
  refine cs_ret_p hC hw (cs_runS (As := [.int x1, .int 3]) (rest := []) hC hw (c_Mo_out l D cA ad M x1 3 _) rfl rfl cw_Mo_94 ⟨Nat.le_of_ble_eq_true rfl, Nat.le_of_ble_eq_true rfl⟩ hl.1 rfl rfl (Nat.le_of_ble_eq_true rfl) d_Mo_waitsFor_2 ⟨Nat.zero_le _, Nat.zero_le _⟩) (fun r1 H locs er1 hw => ?_)
  have hp := cs_bdP er1 hp
  have hf := cs_bdE er1 hf
  refine lv_if_eq (tgt := 10) hx hb d_Mo_waitsFor_5 (by decide) (fun c2 => ?_) (fun c2 => ?_)
  · have hp := hp.1 c2
    have hf := hf.trans (if_pos c2)
    refine lv_aload_n hx hb d_Mo_waitsFor_10 rfl (lv_at hl 0 rfl) ?_
    have o3 := hp.1
    have hp := hp.2
    refine cs_ret_v hC hw (cs_runV (As := []) (rest := []) hC hw hj.2 (ci := 5) rfl rfl (cs_sg_is hj) (c_Mo_work l D cA ad M j hj o3 _) rfl rfl cw_Mo_173 ⟨Nat.le_of_ble_eq_true rfl, Nat.le_of_ble_eq_true rfl⟩ hl.1 rfl rfl (Nat.le_of_ble_eq_true rfl) d_Mo_waitsFor_11 ⟨Nat.zero_le _, Nat.zero_le _⟩) (fun u4 H locs eu4 hw => ?_)
    have hp := cs_bdP eu4 hp
    have hf := cs_bdE eu4 hf
    refine lv_aload_n hx hb d_Mo_waitsFor_14 rfl (lv_at hl 0 rfl) ?_
    refine lv_iload_n hx hb d_Mo_waitsFor_15 rfl (lv_at hl 1 rfl) ?_
    have o5 := hp.1
    have hp := hp.2
    refine cs_ret_p hC hw (cs_runV (As := [.int x1]) (rest := []) hC hw hj.2 (ci := 5) rfl rfl (cs_sg_is hj) (c_Mo_waits l D cA ad u4 j hj x1 o5 _) rfl rfl cw_Mo_129 ⟨Nat.le_of_ble_eq_true rfl, Nat.le_of_ble_eq_true rfl⟩ hl.1 rfl rfl (Nat.le_of_ble_eq_true rfl) d_Mo_waitsFor_16 ⟨Nat.zero_le _, Nat.zero_le _⟩) (fun r6 H locs er6 hw => ?_)
    have hp := cs_bdP er6 hp
    have hf := cs_bdE er6 hf
    refine lv_if_eq (tgt := 30) hx hb d_Mo_waitsFor_19 (by decide) (fun c7 => ?_) (fun c7 => ?_)
    · have hp := hp.1 c7
      have hf := hf.trans (if_pos c7)
      refine lv_iconst (v := (-1)) hx hb d_Mo_waitsFor_30 (by decide) ?_
      exact cs_iret hC hw hr hlk hf d_Mo_waitsFor_31
    · have hp := hp.2 c7
      have hf := hf.trans (if_neg c7)
      refine lv_aload_n hx hb d_Mo_waitsFor_22 rfl (lv_at hl 0 rfl) ?_
      refine lv_iload_n hx hb d_Mo_waitsFor_23 rfl (lv_at hl 1 rfl) ?_
      have o8 := hp.1
      have hp := hp.2
      refine cs_ret_p hC hw (cs_runV (As := [.int x1]) (rest := []) hC hw hj.2 (ci := 5) rfl rfl (cs_sg_is hj) (c_Mo_usedNow l D cA ad u4 j hj x1 o8 _) rfl rfl cw_Mo_126 ⟨Nat.le_of_ble_eq_true rfl, Nat.le_of_ble_eq_true rfl⟩ hl.1 rfl rfl (Nat.le_of_ble_eq_true rfl) d_Mo_waitsFor_24 ⟨Nat.zero_le _, Nat.zero_le _⟩) (fun r9 H locs er9 hw => ?_)
      have hf := cs_bdE er9 hf
      refine lv_goto (tgt := 31) hx hb d_Mo_waitsFor_27 (by decide) ?_
      exact cs_iret hC hw hr hlk hf d_Mo_waitsFor_31
  · have hp := hp.2 c2
    have hf := hf.trans (if_neg c2)
    refine lv_iconst (v := (-1)) hx hb d_Mo_waitsFor_8 (by decide) ?_
    exact cs_iret hC hw hr hlk hf d_Mo_waitsFor_9
theorem d_Mo_logged_0 : decode prog_8_method_37_code 0 = .ok (.aload_n 0, 1) := by decide +kernel
theorem d_Mo_logged_1 : decode prog_8_method_37_code 1 = .ok (.invokevirtual 173, 3) := by decide +kernel
theorem d_Mo_logged_4 : decode prog_8_method_37_code 4 = .ok (.iload_n 1, 1) := by decide +kernel
theorem d_Mo_logged_5 : decode prog_8_method_37_code 5 = .ok (.aload_n 0, 1) := by decide +kernel
theorem d_Mo_logged_6 : decode prog_8_method_37_code 6 = .ok (.getfield 102, 3) := by decide +kernel
theorem d_Mo_logged_9 : decode prog_8_method_37_code 9 = .ok (.invokestatic 94, 3) := by decide +kernel
theorem d_Mo_logged_12 : decode prog_8_method_37_code 12 = .ok (.ifCond .eq 9, 3) := by decide +kernel
theorem d_Mo_logged_15 : decode prog_8_method_37_code 15 = .ok (.ldc2_w 176, 3) := by decide +kernel
theorem d_Mo_logged_18 : decode prog_8_method_37_code 18 = .ok (.goto 10, 3) := by decide +kernel
theorem d_Mo_logged_21 : decode prog_8_method_37_code 21 = .ok (.aload_n 0, 1) := by decide +kernel
theorem d_Mo_logged_22 : decode prog_8_method_37_code 22 = .ok (.getfield 77, 3) := by decide +kernel
theorem d_Mo_logged_25 : decode prog_8_method_37_code 25 = .ok (.iload_n 1, 1) := by decide +kernel
theorem d_Mo_logged_26 : decode prog_8_method_37_code 26 = .ok (.iaload, 1) := by decide +kernel
theorem d_Mo_logged_27 : decode prog_8_method_37_code 27 = .ok (.i2l, 1) := by decide +kernel
theorem d_Mo_logged_28 : decode prog_8_method_37_code 28 = .ok (.lreturn, 1) := by decide +kernel
def f_Mo_logged (M : cs_Mem) (j : Nat) (x1 : Int32) : Int64 × cs_Mem :=
  cs_bd (f_Mo_work M j) fun (u2 : cs_Mem) =>
  cs_bd (f_Mo_out u2 x1 (u2 j 26)) fun (r3 : Int32) =>
  if r3 = 0 then
    ((u2 85 x1.toNatClampNeg).toInt64, u2)
  else
    (1000000000000, u2)
def pre_Mo_logged (M : cs_Mem) (j : Nat) (x1 : Int32) : Prop :=
  (pre_Mo_work M j) ∧
  cs_bd (f_Mo_work M j) fun (u2 : cs_Mem) =>
  cs_bd (f_Mo_out u2 x1 (u2 j 26)) fun (r3 : Int32) =>
  (r3 = 0 →
    (vp_in x1 (cs_ln u2 85)) ∧
    True
  ) ∧ (¬ (r3 = 0) →
    True
  )
set_option maxHeartbeats 4000000 in
set_option maxRecDepth 100000 in
theorem c_Mo_logged (l : Launch) (D : va_G) (cA : Nat → ClassId) (ad : Nat → Nat) (M : cs_Mem) (j : Nat) (hj : cs_is 5 j) (x1 : Int32) (hp : pre_Mo_logged M j x1) : cs_Cl l ⟨"ClassStarterModel", "logged", "(I)J"⟩ prog_8_method_37_code 2 (some .long) ({ frames := 7, cells := 0, slots := 0, locals := 161 }) D cA ad M [.ref (ad j), .int x1] (f_Mo_logged M j x1) := by
  refine cs_entry (by decide) (Nat.le_of_ble_eq_true rfl) (fun p e s m below meth c A ls hC hr hlk _ hw hl => ?_)
  have hx := hC.1
  have hb := hC.2.1
  have hl : lv_has ls 2 [(0, .ref (ad j)), (1, .int x1)] := hl
  generalize hF : f_Mo_logged M j x1 = F
  have hf := hF.symm
  unfold f_Mo_logged at hf
  unfold pre_Mo_logged at hp
  refine lv_aload_n hx hb d_Mo_logged_0 rfl (lv_at hl 0 rfl) ?_
  have o1 := hp.1
  have hp := hp.2
  refine cs_ret_v hC hw (cs_runV (As := []) (rest := []) hC hw hj.2 (ci := 5) rfl rfl (cs_sg_is hj) (c_Mo_work l D cA ad M j hj o1 _) rfl rfl cw_Mo_173 ⟨Nat.le_of_ble_eq_true rfl, Nat.le_of_ble_eq_true rfl⟩ hl.1 rfl rfl (Nat.le_of_ble_eq_true rfl) d_Mo_logged_1 ⟨Nat.zero_le _, Nat.zero_le _⟩) (fun u2 H locs eu2 hw => ?_)
  have hp := cs_bdP eu2 hp
  have hf := cs_bdE eu2 hf
  refine lv_iload_n hx hb d_Mo_logged_4 rfl (lv_at hl 1 rfl) ?_
  refine lv_aload_n hx hb d_Mo_logged_5 rfl (lv_at hl 0 rfl) ?_
  refine gf_Mo_logs hC hw hj wd_575 d_Mo_logged_6 ?_
  refine cs_ret_p hC hw (cs_runS (As := [.int x1, .int (u2 j 26)]) (rest := []) hC hw (c_Mo_out l D cA ad u2 x1 (u2 j 26) _) rfl rfl cw_Mo_94 ⟨Nat.le_of_ble_eq_true rfl, Nat.le_of_ble_eq_true rfl⟩ hl.1 rfl rfl (Nat.le_of_ble_eq_true rfl) d_Mo_logged_9 ⟨Nat.zero_le _, Nat.zero_le _⟩) (fun r3 H locs er3 hw => ?_)
  have hp := cs_bdP er3 hp
  have hf := cs_bdE er3 hf
  refine lv_if_eq (tgt := 21) hx hb d_Mo_logged_12 (by decide) (fun c4 => ?_) (fun c4 => ?_)
  · have hp := hp.1 c4
    have hf := hf.trans (if_pos c4)
    refine lv_aload_n hx hb d_Mo_logged_21 rfl (lv_at hl 0 rfl) ?_
    refine gf_Mo_log hC hw hj wd_574 d_Mo_logged_22 ?_
    refine lv_iload_n hx hb d_Mo_logged_25 rfl (lv_at hl 1 rfl) ?_
    have o5 := hp.1
    have hp := hp.2
    refine cs_iald hC hw is_85 o5 d_Mo_logged_26 ?_
    refine lv_i2l hx hb d_Mo_logged_27 rfl ?_
    exact cs_lret hC hw hr hlk hf d_Mo_logged_28
  · have hp := hp.2 c4
    have hf := hf.trans (if_neg c4)
    refine lv_ldc2 (v := 1000000000000) hx hb hC.2.2.2.1 (hC.2.2.2.2.1 _ wd_762) d_Mo_logged_15 ?_
    refine lv_goto (tgt := 28) hx hb d_Mo_logged_18 (by decide) ?_
    exact cs_lret hC hw hr hlk hf d_Mo_logged_28
theorem d_Mo_noteOrder_0 : decode prog_8_method_38_code 0 = .ok (.aload_n 0, 1) := by decide +kernel
theorem d_Mo_noteOrder_1 : decode prog_8_method_38_code 1 = .ok (.dup, 1) := by decide +kernel
theorem d_Mo_noteOrder_2 : decode prog_8_method_38_code 2 = .ok (.getfield 181, 3) := by decide +kernel
theorem d_Mo_noteOrder_5 : decode prog_8_method_38_code 5 = .ok (.iconst 1, 1) := by decide +kernel
theorem d_Mo_noteOrder_6 : decode prog_8_method_38_code 6 = .ok (.iadd, 1) := by decide +kernel
theorem d_Mo_noteOrder_7 : decode prog_8_method_38_code 7 = .ok (.putfield 181, 3) := by decide +kernel
theorem d_Mo_noteOrder_10 : decode prog_8_method_38_code 10 = .ok (.iconst 0, 1) := by decide +kernel
theorem d_Mo_noteOrder_11 : decode prog_8_method_38_code 11 = .ok (.istore_n 1, 1) := by decide +kernel
theorem d_Mo_noteOrder_12 : decode prog_8_method_38_code 12 = .ok (.iconst 0, 1) := by decide +kernel
theorem d_Mo_noteOrder_13 : decode prog_8_method_38_code 13 = .ok (.istore_n 2, 1) := by decide +kernel
theorem d_Mo_noteOrder_14 : decode prog_8_method_38_code 14 = .ok (.iconst 0, 1) := by decide +kernel
theorem d_Mo_noteOrder_15 : decode prog_8_method_38_code 15 = .ok (.istore_n 3, 1) := by decide +kernel
theorem d_Mo_noteOrder_16 : decode prog_8_method_38_code 16 = .ok (.iload_n 3, 1) := by decide +kernel
theorem d_Mo_noteOrder_17 : decode prog_8_method_38_code 17 = .ok (.iconst 3, 1) := by decide +kernel
theorem d_Mo_noteOrder_18 : decode prog_8_method_38_code 18 = .ok (.if_icmp .ge 33, 3) := by decide +kernel
theorem d_Mo_noteOrder_21 : decode prog_8_method_38_code 21 = .ok (.aload_n 0, 1) := by decide +kernel
theorem d_Mo_noteOrder_22 : decode prog_8_method_38_code 22 = .ok (.iload_n 3, 1) := by decide +kernel
theorem d_Mo_noteOrder_23 : decode prog_8_method_38_code 23 = .ok (.invokevirtual 178, 3) := by decide +kernel
theorem d_Mo_noteOrder_26 : decode prog_8_method_38_code 26 = .ok (.istore 4, 2) := by decide +kernel
theorem d_Mo_noteOrder_28 : decode prog_8_method_38_code 28 = .ok (.iload 4, 2) := by decide +kernel
theorem d_Mo_noteOrder_30 : decode prog_8_method_38_code 30 = .ok (.bipush 50, 2) := by decide +kernel
theorem d_Mo_noteOrder_32 : decode prog_8_method_38_code 32 = .ok (.if_icmp .ne 5, 3) := by decide +kernel
theorem d_Mo_noteOrder_35 : decode prog_8_method_38_code 35 = .ok (.iconst 1, 1) := by decide +kernel
theorem d_Mo_noteOrder_36 : decode prog_8_method_38_code 36 = .ok (.istore_n 2, 1) := by decide +kernel
theorem d_Mo_noteOrder_37 : decode prog_8_method_38_code 37 = .ok (.bipush 100, 2) := by decide +kernel
theorem d_Mo_noteOrder_39 : decode prog_8_method_38_code 39 = .ok (.iload_n 1, 1) := by decide +kernel
theorem d_Mo_noteOrder_40 : decode prog_8_method_38_code 40 = .ok (.imul, 1) := by decide +kernel
theorem d_Mo_noteOrder_41 : decode prog_8_method_38_code 41 = .ok (.iload 4, 2) := by decide +kernel
theorem d_Mo_noteOrder_43 : decode prog_8_method_38_code 43 = .ok (.iadd, 1) := by decide +kernel
theorem d_Mo_noteOrder_44 : decode prog_8_method_38_code 44 = .ok (.istore_n 1, 1) := by decide +kernel
theorem d_Mo_noteOrder_45 : decode prog_8_method_38_code 45 = .ok (.iinc 3 1, 3) := by decide +kernel
theorem d_Mo_noteOrder_48 : decode prog_8_method_38_code 48 = .ok (.goto (-32), 3) := by decide +kernel
theorem d_Mo_noteOrder_51 : decode prog_8_method_38_code 51 = .ok (.iload_n 2, 1) := by decide +kernel
theorem d_Mo_noteOrder_52 : decode prog_8_method_38_code 52 = .ok (.ifCond .eq 13, 3) := by decide +kernel
theorem d_Mo_noteOrder_55 : decode prog_8_method_38_code 55 = .ok (.aload_n 0, 1) := by decide +kernel
theorem d_Mo_noteOrder_56 : decode prog_8_method_38_code 56 = .ok (.dup, 1) := by decide +kernel
theorem d_Mo_noteOrder_57 : decode prog_8_method_38_code 57 = .ok (.getfield 184, 3) := by decide +kernel
theorem d_Mo_noteOrder_60 : decode prog_8_method_38_code 60 = .ok (.iconst 1, 1) := by decide +kernel
theorem d_Mo_noteOrder_61 : decode prog_8_method_38_code 61 = .ok (.iadd, 1) := by decide +kernel
theorem d_Mo_noteOrder_62 : decode prog_8_method_38_code 62 = .ok (.putfield 184, 3) := by decide +kernel
theorem d_Mo_noteOrder_65 : decode prog_8_method_38_code 65 = .ok (.iconst 0, 1) := by decide +kernel
theorem d_Mo_noteOrder_66 : decode prog_8_method_38_code 66 = .ok (.istore_n 3, 1) := by decide +kernel
theorem d_Mo_noteOrder_67 : decode prog_8_method_38_code 67 = .ok (.iload_n 3, 1) := by decide +kernel
theorem d_Mo_noteOrder_68 : decode prog_8_method_38_code 68 = .ok (.aload_n 0, 1) := by decide +kernel
theorem d_Mo_noteOrder_69 : decode prog_8_method_38_code 69 = .ok (.getfield 187, 3) := by decide +kernel
theorem d_Mo_noteOrder_72 : decode prog_8_method_38_code 72 = .ok (.if_icmp .ge 19, 3) := by decide +kernel
theorem d_Mo_noteOrder_75 : decode prog_8_method_38_code 75 = .ok (.aload_n 0, 1) := by decide +kernel
theorem d_Mo_noteOrder_76 : decode prog_8_method_38_code 76 = .ok (.getfield 80, 3) := by decide +kernel
theorem d_Mo_noteOrder_79 : decode prog_8_method_38_code 79 = .ok (.iload_n 3, 1) := by decide +kernel
theorem d_Mo_noteOrder_80 : decode prog_8_method_38_code 80 = .ok (.iaload, 1) := by decide +kernel
theorem d_Mo_noteOrder_81 : decode prog_8_method_38_code 81 = .ok (.iload_n 1, 1) := by decide +kernel
theorem d_Mo_noteOrder_82 : decode prog_8_method_38_code 82 = .ok (.if_icmp .ge 9, 3) := by decide +kernel
theorem d_Mo_noteOrder_85 : decode prog_8_method_38_code 85 = .ok (.iinc 3 1, 3) := by decide +kernel
theorem d_Mo_noteOrder_88 : decode prog_8_method_38_code 88 = .ok (.goto (-21), 3) := by decide +kernel
theorem d_Mo_noteOrder_91 : decode prog_8_method_38_code 91 = .ok (.iload_n 3, 1) := by decide +kernel
theorem d_Mo_noteOrder_92 : decode prog_8_method_38_code 92 = .ok (.aload_n 0, 1) := by decide +kernel
theorem d_Mo_noteOrder_93 : decode prog_8_method_38_code 93 = .ok (.getfield 187, 3) := by decide +kernel
theorem d_Mo_noteOrder_96 : decode prog_8_method_38_code 96 = .ok (.if_icmp .ge 14, 3) := by decide +kernel
theorem d_Mo_noteOrder_99 : decode prog_8_method_38_code 99 = .ok (.aload_n 0, 1) := by decide +kernel
theorem d_Mo_noteOrder_100 : decode prog_8_method_38_code 100 = .ok (.getfield 80, 3) := by decide +kernel
theorem d_Mo_noteOrder_103 : decode prog_8_method_38_code 103 = .ok (.iload_n 3, 1) := by decide +kernel
theorem d_Mo_noteOrder_104 : decode prog_8_method_38_code 104 = .ok (.iaload, 1) := by decide +kernel
theorem d_Mo_noteOrder_105 : decode prog_8_method_38_code 105 = .ok (.iload_n 1, 1) := by decide +kernel
theorem d_Mo_noteOrder_106 : decode prog_8_method_38_code 106 = .ok (.if_icmp .ne 4, 3) := by decide +kernel
theorem d_Mo_noteOrder_109 : decode prog_8_method_38_code 109 = .ok (.return_, 1) := by decide +kernel
theorem d_Mo_noteOrder_110 : decode prog_8_method_38_code 110 = .ok (.aload_n 0, 1) := by decide +kernel
theorem d_Mo_noteOrder_111 : decode prog_8_method_38_code 111 = .ok (.getfield 187, 3) := by decide +kernel
theorem d_Mo_noteOrder_114 : decode prog_8_method_38_code 114 = .ok (.istore 4, 2) := by decide +kernel
theorem d_Mo_noteOrder_116 : decode prog_8_method_38_code 116 = .ok (.iload 4, 2) := by decide +kernel
theorem d_Mo_noteOrder_118 : decode prog_8_method_38_code 118 = .ok (.iload_n 3, 1) := by decide +kernel
theorem d_Mo_noteOrder_119 : decode prog_8_method_38_code 119 = .ok (.if_icmp .le 25, 3) := by decide +kernel
theorem d_Mo_noteOrder_122 : decode prog_8_method_38_code 122 = .ok (.aload_n 0, 1) := by decide +kernel
theorem d_Mo_noteOrder_123 : decode prog_8_method_38_code 123 = .ok (.getfield 80, 3) := by decide +kernel
theorem d_Mo_noteOrder_126 : decode prog_8_method_38_code 126 = .ok (.iload 4, 2) := by decide +kernel
theorem d_Mo_noteOrder_128 : decode prog_8_method_38_code 128 = .ok (.aload_n 0, 1) := by decide +kernel
theorem d_Mo_noteOrder_129 : decode prog_8_method_38_code 129 = .ok (.getfield 80, 3) := by decide +kernel
theorem d_Mo_noteOrder_132 : decode prog_8_method_38_code 132 = .ok (.iload 4, 2) := by decide +kernel
theorem d_Mo_noteOrder_134 : decode prog_8_method_38_code 134 = .ok (.iconst 1, 1) := by decide +kernel
theorem d_Mo_noteOrder_135 : decode prog_8_method_38_code 135 = .ok (.isub, 1) := by decide +kernel
theorem d_Mo_noteOrder_136 : decode prog_8_method_38_code 136 = .ok (.iaload, 1) := by decide +kernel
theorem d_Mo_noteOrder_137 : decode prog_8_method_38_code 137 = .ok (.iastore, 1) := by decide +kernel
theorem d_Mo_noteOrder_138 : decode prog_8_method_38_code 138 = .ok (.iinc 4 (-1), 3) := by decide +kernel
theorem d_Mo_noteOrder_141 : decode prog_8_method_38_code 141 = .ok (.goto (-25), 3) := by decide +kernel
theorem d_Mo_noteOrder_144 : decode prog_8_method_38_code 144 = .ok (.aload_n 0, 1) := by decide +kernel
theorem d_Mo_noteOrder_145 : decode prog_8_method_38_code 145 = .ok (.getfield 80, 3) := by decide +kernel
theorem d_Mo_noteOrder_148 : decode prog_8_method_38_code 148 = .ok (.iload_n 3, 1) := by decide +kernel
theorem d_Mo_noteOrder_149 : decode prog_8_method_38_code 149 = .ok (.iload_n 1, 1) := by decide +kernel
theorem d_Mo_noteOrder_150 : decode prog_8_method_38_code 150 = .ok (.iastore, 1) := by decide +kernel
theorem d_Mo_noteOrder_151 : decode prog_8_method_38_code 151 = .ok (.aload_n 0, 1) := by decide +kernel
theorem d_Mo_noteOrder_152 : decode prog_8_method_38_code 152 = .ok (.dup, 1) := by decide +kernel
theorem d_Mo_noteOrder_153 : decode prog_8_method_38_code 153 = .ok (.getfield 187, 3) := by decide +kernel
theorem d_Mo_noteOrder_156 : decode prog_8_method_38_code 156 = .ok (.iconst 1, 1) := by decide +kernel
theorem d_Mo_noteOrder_157 : decode prog_8_method_38_code 157 = .ok (.iadd, 1) := by decide +kernel
theorem d_Mo_noteOrder_158 : decode prog_8_method_38_code 158 = .ok (.putfield 187, 3) := by decide +kernel
theorem d_Mo_noteOrder_161 : decode prog_8_method_38_code 161 = .ok (.return_, 1) := by decide +kernel
def f_Mo_noteOrder_L116 : Nat → cs_Mem → Nat → Int32 → Int32 → Int32 → cs_Mem
  | 0, M, j, y1, y3, y4 => M
  | fuel + 1, M, j, y1, y3, y4 =>
    if y4 ≤ y3 then
      cs_bd (cs_up M 86 (upd (M 86) y3.toNatClampNeg y1)) fun (N22 : cs_Mem) =>
      cs_bd (cs_up N22 j (upd (N22 j) 28 ((N22 j 28) + 1))) fun (N23 : cs_Mem) =>
      N23
    else
      cs_bd (cs_up M 86 (upd (M 86) y4.toNatClampNeg (M 86 (y4 - 1).toNatClampNeg))) fun (N26 : cs_Mem) =>
      cs_bd (y4 + (-1)) fun (z27 : Int32) =>
      f_Mo_noteOrder_L116 fuel N26 j y1 y3 z27
def pre_Mo_noteOrder_L116 : Nat → cs_Mem → Nat → Int32 → Int32 → Int32 → Prop
  | 0, _, _, _, _, _ => False
  | fuel + 1, M, j, y1, y3, y4 =>
    (y4 ≤ y3 →
      (vp_in y3 (cs_ln M 86)) ∧
      True
    ) ∧ (¬ (y4 ≤ y3) →
      (vp_in (y4 - 1) (cs_ln M 86)) ∧
      (vp_in y4 (cs_ln M 86)) ∧
      cs_bd (cs_up M 86 (upd (M 86) y4.toNatClampNeg (M 86 (y4 - 1).toNatClampNeg))) fun (N26 : cs_Mem) =>
      cs_bd (y4 + (-1)) fun (z27 : Int32) =>
      pre_Mo_noteOrder_L116 fuel N26 j y1 y3 z27
    )
def f_Mo_noteOrder_J110 (M : cs_Mem) (j : Nat) (y1 : Int32) (y3 : Int32) : cs_Mem :=
  cs_bd (M j 28) fun (z19 : Int32) =>
  f_Mo_noteOrder_L116 4000 M j y1 y3 z19
def pre_Mo_noteOrder_J110 (M : cs_Mem) (j : Nat) (y1 : Int32) (y3 : Int32) : Prop :=
  cs_bd (M j 28) fun (z19 : Int32) =>
  pre_Mo_noteOrder_L116 4000 M j y1 y3 z19
def f_Mo_noteOrder_J91 (M : cs_Mem) (j : Nat) (y1 : Int32) (y3 : Int32) : cs_Mem :=
  if (M j 28) ≤ y3 then
    f_Mo_noteOrder_J110 M j y1 y3
  else
    if (M 86 y3.toNatClampNeg) = y1 then
      M
    else
      f_Mo_noteOrder_J110 M j y1 y3
def pre_Mo_noteOrder_J91 (M : cs_Mem) (j : Nat) (y1 : Int32) (y3 : Int32) : Prop :=
  ((M j 28) ≤ y3 →
    pre_Mo_noteOrder_J110 M j y1 y3
  ) ∧ (¬ ((M j 28) ≤ y3) →
    (vp_in y3 (cs_ln M 86)) ∧
    ((M 86 y3.toNatClampNeg) = y1 →
      True
    ) ∧ (¬ ((M 86 y3.toNatClampNeg) = y1) →
      pre_Mo_noteOrder_J110 M j y1 y3
    )
  )
def f_Mo_noteOrder_L67 : Nat → cs_Mem → Nat → Int32 → Int32 → cs_Mem
  | 0, M, j, y1, y3 => M
  | fuel + 1, M, j, y1, y3 =>
    if (M j 28) ≤ y3 then
      f_Mo_noteOrder_J91 M j y1 y3
    else
      if y1 ≤ (M 86 y3.toNatClampNeg) then
        f_Mo_noteOrder_J91 M j y1 y3
      else
        cs_bd (y3 + 1) fun (z15 : Int32) =>
        f_Mo_noteOrder_L67 fuel M j y1 z15
def pre_Mo_noteOrder_L67 : Nat → cs_Mem → Nat → Int32 → Int32 → Prop
  | 0, _, _, _, _ => False
  | fuel + 1, M, j, y1, y3 =>
    ((M j 28) ≤ y3 →
      pre_Mo_noteOrder_J91 M j y1 y3
    ) ∧ (¬ ((M j 28) ≤ y3) →
      (vp_in y3 (cs_ln M 86)) ∧
      (y1 ≤ (M 86 y3.toNatClampNeg) →
        pre_Mo_noteOrder_J91 M j y1 y3
      ) ∧ (¬ (y1 ≤ (M 86 y3.toNatClampNeg)) →
        cs_bd (y3 + 1) fun (z15 : Int32) =>
        pre_Mo_noteOrder_L67 fuel M j y1 z15
      )
    )
def f_Mo_noteOrder_J65 (M : cs_Mem) (j : Nat) (y1 : Int32) : cs_Mem :=
  f_Mo_noteOrder_L67 4000 M j y1 0
def pre_Mo_noteOrder_J65 (M : cs_Mem) (j : Nat) (y1 : Int32) : Prop :=
  pre_Mo_noteOrder_L67 4000 M j y1 0
def f_Mo_noteOrder_L16 : Nat → cs_Mem → Nat → Int32 → Int32 → Int32 → cs_Mem
  | 0, M, j, y1, y2, y3 => M
  | fuel + 1, M, j, y1, y2, y3 =>
    if 3 ≤ y3 then
      if y2 = 0 then
        f_Mo_noteOrder_J65 M j y1
      else
        cs_bd (cs_up M j (upd (M j) 30 ((M j 30) + 1))) fun (N4 : cs_Mem) =>
        f_Mo_noteOrder_J65 N4 j y1
    else
      cs_bd (f_Mo_resultNow M j y3) fun (r6 : Int32) =>
      if r6 = 50 then
        cs_bd ((100 * y1) + r6) fun (z10 : Int32) =>
        cs_bd (y3 + 1) fun (z11 : Int32) =>
        f_Mo_noteOrder_L16 fuel M j z10 1 z11
      else
        cs_bd ((100 * y1) + r6) fun (z8 : Int32) =>
        cs_bd (y3 + 1) fun (z9 : Int32) =>
        f_Mo_noteOrder_L16 fuel M j z8 y2 z9
def pre_Mo_noteOrder_L16 : Nat → cs_Mem → Nat → Int32 → Int32 → Int32 → Prop
  | 0, _, _, _, _, _ => False
  | fuel + 1, M, j, y1, y2, y3 =>
    (3 ≤ y3 →
      (y2 = 0 →
        pre_Mo_noteOrder_J65 M j y1
      ) ∧ (¬ (y2 = 0) →
        cs_bd (cs_up M j (upd (M j) 30 ((M j 30) + 1))) fun (N4 : cs_Mem) =>
        pre_Mo_noteOrder_J65 N4 j y1
      )
    ) ∧ (¬ (3 ≤ y3) →
      (pre_Mo_resultNow M j y3) ∧
      cs_bd (f_Mo_resultNow M j y3) fun (r6 : Int32) =>
      (r6 = 50 →
        cs_bd ((100 * y1) + r6) fun (z10 : Int32) =>
        cs_bd (y3 + 1) fun (z11 : Int32) =>
        pre_Mo_noteOrder_L16 fuel M j z10 1 z11
      ) ∧ (¬ (r6 = 50) →
        cs_bd ((100 * y1) + r6) fun (z8 : Int32) =>
        cs_bd (y3 + 1) fun (z9 : Int32) =>
        pre_Mo_noteOrder_L16 fuel M j z8 y2 z9
      )
    )
def f_Mo_noteOrder (M : cs_Mem) (j : Nat) : cs_Mem :=
  cs_bd (cs_up M j (upd (M j) 29 ((M j 29) + 1))) fun (N1 : cs_Mem) =>
  f_Mo_noteOrder_L16 4000 N1 j 0 0 0
def pre_Mo_noteOrder (M : cs_Mem) (j : Nat) : Prop :=
  cs_bd (cs_up M j (upd (M j) 29 ((M j 29) + 1))) fun (N1 : cs_Mem) =>
  pre_Mo_noteOrder_L16 4000 N1 j 0 0 0
set_option maxHeartbeats 4000000 in
set_option maxRecDepth 100000 in
theorem w_Mo_noteOrder_L116 {p : Program} {l : Launch} {e : Env} {s : State} {m : MethodId} {args : Array Value} {below : List Frame} {meth : Method} {c : Code} {D : va_G} {cA : Nat → ClassId} {A : Nat → Prop} {ad : Nat → Nat} {F : cs_Mem} (hC : cs_Ctx p s m args c prog_8_method_38_code 5 "ClassStarterModel" D cA A) (hr : meth.sig.returnType = none) (hlk : meth.locks = false) (fuel : Nat) : ∀ (M : cs_Mem) (j : Nat) (y1 : Int32) (y3 : Int32) (y4 : Int32) (H : Heap) (locs : List Loc) (ls : Array Slot), cs_Wd D cA ad M A s H locs → lv_has ls 5 [(0, .ref (ad j)), (1, .int y1), (3, .int y3), (4, .int y4)] → cs_is 5 j → pre_Mo_noteOrder_L116 fuel M j y1 y3 y4 → F = f_Mo_noteOrder_L116 fuel M j y1 y3 y4 → W p l e ({ frames := 7, cells := 0, slots := 0, locals := 159 }) s m args below meth c H locs 0 0 (MQ below (cs_Qv D cA ad F A) args s 0 0 A) (F0 m 116 ls []) := by
  have hx := hC.1
  have hb := hC.2.1
  induction fuel with
  | zero =>
    intro M j y1 y3 y4 H locs ls hw hl g0 hp hf
    exact absurd hp (by simp [pre_Mo_noteOrder_L116])
  | succ fuel ih =>
    intro M j y1 y3 y4 H locs ls hw hl g0 hp hf
    rw [f_Mo_noteOrder_L116] at hf
    rw [pre_Mo_noteOrder_L116] at hp
    refine lv_iload hx hb d_Mo_noteOrder_116 (lv_at hl 3 rfl) ?_
    refine lv_iload_n hx hb d_Mo_noteOrder_118 rfl (lv_at hl 2 rfl) ?_
    refine lv_icmp_le (tgt := 144) hx hb d_Mo_noteOrder_119 (by decide) (fun c20 => ?_) (fun c20 => ?_)
    · have hp := hp.1 c20
      have hf := hf.trans (if_pos c20)
      refine lv_aload_n hx hb d_Mo_noteOrder_144 rfl (lv_at hl 0 rfl) ?_
      refine gf_Mo_outcomes hC hw g0 wd_576 d_Mo_noteOrder_145 ?_
      refine lv_iload_n hx hb d_Mo_noteOrder_148 rfl (lv_at hl 2 rfl) ?_
      refine lv_iload_n hx hb d_Mo_noteOrder_149 rfl (lv_at hl 1 rfl) ?_
      have o21 := hp.1
      have hp := hp.2
      refine cs_iast hC hw is_86 o21 d_Mo_noteOrder_150 (fun N22 H locs eN22 hw => ?_)
      have hf := cs_bdE eN22 hf
      refine lv_aload_n hx hb d_Mo_noteOrder_151 rfl (lv_at hl 0 rfl) ?_
      refine lv_dup hx hb d_Mo_noteOrder_152 rfl ?_
      refine gf_Mo_found hC hw g0 wd_577 d_Mo_noteOrder_153 ?_
      refine lv_iconst (v := 1) hx hb d_Mo_noteOrder_156 (by decide) ?_
      refine lv_iadd hx hb d_Mo_noteOrder_157 ?_
      refine pf_Mo_found hC hw g0 wd_577 d_Mo_noteOrder_158 (fun N23 H locs eN23 hw => ?_)
      have hf := cs_bdE eN23 hf
      exact cs_vret hC hw hr hlk hf d_Mo_noteOrder_161
    · have hp := hp.2 c20
      have hf := hf.trans (if_neg c20)
      refine lv_aload_n hx hb d_Mo_noteOrder_122 rfl (lv_at hl 0 rfl) ?_
      refine gf_Mo_outcomes hC hw g0 wd_576 d_Mo_noteOrder_123 ?_
      refine lv_iload hx hb d_Mo_noteOrder_126 (lv_at hl 3 rfl) ?_
      refine lv_aload_n hx hb d_Mo_noteOrder_128 rfl (lv_at hl 0 rfl) ?_
      refine gf_Mo_outcomes hC hw g0 wd_576 d_Mo_noteOrder_129 ?_
      refine lv_iload hx hb d_Mo_noteOrder_132 (lv_at hl 3 rfl) ?_
      refine lv_iconst (v := 1) hx hb d_Mo_noteOrder_134 (by decide) ?_
      refine lv_isub hx hb d_Mo_noteOrder_135 ?_
      have o24 := hp.1
      have hp := hp.2
      refine cs_iald hC hw is_86 o24 d_Mo_noteOrder_136 ?_
      have o25 := hp.1
      have hp := hp.2
      refine cs_iast hC hw is_86 o25 d_Mo_noteOrder_137 (fun N26 H locs eN26 hw => ?_)
      have hp := cs_bdP eN26 hp
      have hf := cs_bdE eN26 hf
      obtain ⟨z27, ez27⟩ : ∃ y : Int32, y = y4 + (-1) := ⟨_, rfl⟩
      have hp := cs_bdP ez27 hp
      have hf := cs_bdE ez27 hf
      refine lv_iinc (v := z27) (lv' := [(4, .int z27), (0, .ref (ad j)), (1, .int y1), (3, .int y3)]) hx hb d_Mo_noteOrder_138 hl (k := 3) rfl (by rw [ez27]; rfl) (by decide) rfl (fun ls hl => ?_)
      refine lv_goto (tgt := 116) hx hb d_Mo_noteOrder_141 (by decide) ?_
      exact ih N26 j y1 y3 z27 _ _ ls hw (lv_sub hl [1, 2, 3, 0] rfl) g0 hp hf
set_option maxHeartbeats 4000000 in
set_option maxRecDepth 100000 in
theorem w_Mo_noteOrder_J110 {p : Program} {l : Launch} {e : Env} {s : State} {m : MethodId} {args : Array Value} {below : List Frame} {meth : Method} {c : Code} {D : va_G} {cA : Nat → ClassId} {A : Nat → Prop} {ad : Nat → Nat} {F : cs_Mem} (hC : cs_Ctx p s m args c prog_8_method_38_code 5 "ClassStarterModel" D cA A) (hr : meth.sig.returnType = none) (hlk : meth.locks = false) : ∀ (M : cs_Mem) (j : Nat) (y1 : Int32) (y3 : Int32) (H : Heap) (locs : List Loc) (ls : Array Slot), cs_Wd D cA ad M A s H locs → lv_has ls 5 [(0, .ref (ad j)), (1, .int y1), (3, .int y3)] → cs_is 5 j → pre_Mo_noteOrder_J110 M j y1 y3 → F = f_Mo_noteOrder_J110 M j y1 y3 → W p l e ({ frames := 7, cells := 0, slots := 0, locals := 159 }) s m args below meth c H locs 0 0 (MQ below (cs_Qv D cA ad F A) args s 0 0 A) (F0 m 110 ls []) := by
  have hx := hC.1
  have hb := hC.2.1
  intro M j y1 y3 H locs ls hw hl g0 hp hf
  unfold f_Mo_noteOrder_J110 at hf
  unfold pre_Mo_noteOrder_J110 at hp
  refine lv_aload_n hx hb d_Mo_noteOrder_110 rfl (lv_at hl 0 rfl) ?_
  refine gf_Mo_found hC hw g0 wd_577 d_Mo_noteOrder_111 ?_
  refine lv_topi (fun z19 ez19 => ?_)
  have hp := cs_bdP ez19 hp
  have hf := cs_bdE ez19 hf
  refine lv_istore (lv' := [(4, .int z19), (0, .ref (ad j)), (1, .int y1), (3, .int y3)]) hx hb d_Mo_noteOrder_114 hl (by decide) rfl (fun ls hl => ?_)
  exact w_Mo_noteOrder_L116 hC hr hlk 4000 M j y1 y3 z19 _ _ ls hw (lv_sub hl [1, 2, 3, 0] rfl) g0 hp hf
set_option maxHeartbeats 4000000 in
set_option maxRecDepth 100000 in
theorem w_Mo_noteOrder_J91 {p : Program} {l : Launch} {e : Env} {s : State} {m : MethodId} {args : Array Value} {below : List Frame} {meth : Method} {c : Code} {D : va_G} {cA : Nat → ClassId} {A : Nat → Prop} {ad : Nat → Nat} {F : cs_Mem} (hC : cs_Ctx p s m args c prog_8_method_38_code 5 "ClassStarterModel" D cA A) (hr : meth.sig.returnType = none) (hlk : meth.locks = false) : ∀ (M : cs_Mem) (j : Nat) (y1 : Int32) (y3 : Int32) (H : Heap) (locs : List Loc) (ls : Array Slot), cs_Wd D cA ad M A s H locs → lv_has ls 5 [(0, .ref (ad j)), (1, .int y1), (3, .int y3)] → cs_is 5 j → pre_Mo_noteOrder_J91 M j y1 y3 → F = f_Mo_noteOrder_J91 M j y1 y3 → W p l e ({ frames := 7, cells := 0, slots := 0, locals := 159 }) s m args below meth c H locs 0 0 (MQ below (cs_Qv D cA ad F A) args s 0 0 A) (F0 m 91 ls []) := by
  have hx := hC.1
  have hb := hC.2.1
  intro M j y1 y3 H locs ls hw hl g0 hp hf
  unfold f_Mo_noteOrder_J91 at hf
  unfold pre_Mo_noteOrder_J91 at hp
  refine lv_iload_n hx hb d_Mo_noteOrder_91 rfl (lv_at hl 2 rfl) ?_
  refine lv_aload_n hx hb d_Mo_noteOrder_92 rfl (lv_at hl 0 rfl) ?_
  refine gf_Mo_found hC hw g0 wd_577 d_Mo_noteOrder_93 ?_
  refine lv_icmp_ge (tgt := 110) hx hb d_Mo_noteOrder_96 (by decide) (fun c16 => ?_) (fun c16 => ?_)
  · have hp := hp.1 c16
    have hf := hf.trans (if_pos c16)
    exact w_Mo_noteOrder_J110 hC hr hlk M j y1 y3 _ _ ls hw (lv_sub hl [0, 1, 2] rfl) g0 hp hf
  · have hp := hp.2 c16
    have hf := hf.trans (if_neg c16)
    refine lv_aload_n hx hb d_Mo_noteOrder_99 rfl (lv_at hl 0 rfl) ?_
    refine gf_Mo_outcomes hC hw g0 wd_576 d_Mo_noteOrder_100 ?_
    refine lv_iload_n hx hb d_Mo_noteOrder_103 rfl (lv_at hl 2 rfl) ?_
    have o17 := hp.1
    have hp := hp.2
    refine cs_iald hC hw is_86 o17 d_Mo_noteOrder_104 ?_
    refine lv_iload_n hx hb d_Mo_noteOrder_105 rfl (lv_at hl 1 rfl) ?_
    refine lv_icmp_ne (tgt := 110) hx hb d_Mo_noteOrder_106 (by decide) (fun c18 => ?_) (fun c18 => ?_)
    · have hp := hp.2 c18
      have hf := hf.trans (if_neg c18)
      exact w_Mo_noteOrder_J110 hC hr hlk M j y1 y3 _ _ ls hw (lv_sub hl [0, 1, 2] rfl) g0 hp hf
    · have hp := hp.1 c18
      have hf := hf.trans (if_pos c18)
      exact cs_vret hC hw hr hlk hf d_Mo_noteOrder_109
set_option maxHeartbeats 4000000 in
set_option maxRecDepth 100000 in
theorem w_Mo_noteOrder_L67 {p : Program} {l : Launch} {e : Env} {s : State} {m : MethodId} {args : Array Value} {below : List Frame} {meth : Method} {c : Code} {D : va_G} {cA : Nat → ClassId} {A : Nat → Prop} {ad : Nat → Nat} {F : cs_Mem} (hC : cs_Ctx p s m args c prog_8_method_38_code 5 "ClassStarterModel" D cA A) (hr : meth.sig.returnType = none) (hlk : meth.locks = false) (fuel : Nat) : ∀ (M : cs_Mem) (j : Nat) (y1 : Int32) (y3 : Int32) (H : Heap) (locs : List Loc) (ls : Array Slot), cs_Wd D cA ad M A s H locs → lv_has ls 5 [(0, .ref (ad j)), (1, .int y1), (3, .int y3)] → cs_is 5 j → pre_Mo_noteOrder_L67 fuel M j y1 y3 → F = f_Mo_noteOrder_L67 fuel M j y1 y3 → W p l e ({ frames := 7, cells := 0, slots := 0, locals := 159 }) s m args below meth c H locs 0 0 (MQ below (cs_Qv D cA ad F A) args s 0 0 A) (F0 m 67 ls []) := by
  have hx := hC.1
  have hb := hC.2.1
  induction fuel with
  | zero =>
    intro M j y1 y3 H locs ls hw hl g0 hp hf
    exact absurd hp (by simp [pre_Mo_noteOrder_L67])
  | succ fuel ih =>
    intro M j y1 y3 H locs ls hw hl g0 hp hf
    rw [f_Mo_noteOrder_L67] at hf
    rw [pre_Mo_noteOrder_L67] at hp
    refine lv_iload_n hx hb d_Mo_noteOrder_67 rfl (lv_at hl 2 rfl) ?_
    refine lv_aload_n hx hb d_Mo_noteOrder_68 rfl (lv_at hl 0 rfl) ?_
    refine gf_Mo_found hC hw g0 wd_577 d_Mo_noteOrder_69 ?_
    refine lv_icmp_ge (tgt := 91) hx hb d_Mo_noteOrder_72 (by decide) (fun c12 => ?_) (fun c12 => ?_)
    · have hp := hp.1 c12
      have hf := hf.trans (if_pos c12)
      exact w_Mo_noteOrder_J91 hC hr hlk M j y1 y3 _ _ ls hw (lv_sub hl [0, 1, 2] rfl) g0 hp hf
    · have hp := hp.2 c12
      have hf := hf.trans (if_neg c12)
      refine lv_aload_n hx hb d_Mo_noteOrder_75 rfl (lv_at hl 0 rfl) ?_
      refine gf_Mo_outcomes hC hw g0 wd_576 d_Mo_noteOrder_76 ?_
      refine lv_iload_n hx hb d_Mo_noteOrder_79 rfl (lv_at hl 2 rfl) ?_
      have o13 := hp.1
      have hp := hp.2
      refine cs_iald hC hw is_86 o13 d_Mo_noteOrder_80 ?_
      refine lv_iload_n hx hb d_Mo_noteOrder_81 rfl (lv_at hl 1 rfl) ?_
      refine lv_icmp_ge (tgt := 91) hx hb d_Mo_noteOrder_82 (by decide) (fun c14 => ?_) (fun c14 => ?_)
      · have hp := hp.1 c14
        have hf := hf.trans (if_pos c14)
        exact w_Mo_noteOrder_J91 hC hr hlk M j y1 y3 _ _ ls hw (lv_sub hl [0, 1, 2] rfl) g0 hp hf
      · have hp := hp.2 c14
        have hf := hf.trans (if_neg c14)
        obtain ⟨z15, ez15⟩ : ∃ y : Int32, y = y3 + 1 := ⟨_, rfl⟩
        have hp := cs_bdP ez15 hp
        have hf := cs_bdE ez15 hf
        refine lv_iinc (v := z15) (lv' := [(3, .int z15), (0, .ref (ad j)), (1, .int y1)]) hx hb d_Mo_noteOrder_85 hl (k := 2) rfl (by rw [ez15]; rfl) (by decide) rfl (fun ls hl => ?_)
        refine lv_goto (tgt := 67) hx hb d_Mo_noteOrder_88 (by decide) ?_
        exact ih M j y1 z15 _ _ ls hw (lv_sub hl [1, 2, 0] rfl) g0 hp hf
set_option maxHeartbeats 4000000 in
set_option maxRecDepth 100000 in
theorem w_Mo_noteOrder_J65 {p : Program} {l : Launch} {e : Env} {s : State} {m : MethodId} {args : Array Value} {below : List Frame} {meth : Method} {c : Code} {D : va_G} {cA : Nat → ClassId} {A : Nat → Prop} {ad : Nat → Nat} {F : cs_Mem} (hC : cs_Ctx p s m args c prog_8_method_38_code 5 "ClassStarterModel" D cA A) (hr : meth.sig.returnType = none) (hlk : meth.locks = false) : ∀ (M : cs_Mem) (j : Nat) (y1 : Int32) (H : Heap) (locs : List Loc) (ls : Array Slot), cs_Wd D cA ad M A s H locs → lv_has ls 5 [(0, .ref (ad j)), (1, .int y1)] → cs_is 5 j → pre_Mo_noteOrder_J65 M j y1 → F = f_Mo_noteOrder_J65 M j y1 → W p l e ({ frames := 7, cells := 0, slots := 0, locals := 159 }) s m args below meth c H locs 0 0 (MQ below (cs_Qv D cA ad F A) args s 0 0 A) (F0 m 65 ls []) := by
  have hx := hC.1
  have hb := hC.2.1
  intro M j y1 H locs ls hw hl g0 hp hf
  unfold f_Mo_noteOrder_J65 at hf
  unfold pre_Mo_noteOrder_J65 at hp
  refine lv_iconst (v := 0) hx hb d_Mo_noteOrder_65 (by decide) ?_
  refine lv_istore_n (lv' := [(3, .int 0), (0, .ref (ad j)), (1, .int y1)]) hx hb d_Mo_noteOrder_66 rfl hl (by decide) rfl (fun ls hl => ?_)
  exact w_Mo_noteOrder_L67 hC hr hlk 4000 M j y1 0 _ _ ls hw (lv_sub hl [1, 2, 0] rfl) g0 hp hf
set_option maxHeartbeats 4000000 in
set_option maxRecDepth 100000 in
theorem w_Mo_noteOrder_L16 {p : Program} {l : Launch} {e : Env} {s : State} {m : MethodId} {args : Array Value} {below : List Frame} {meth : Method} {c : Code} {D : va_G} {cA : Nat → ClassId} {A : Nat → Prop} {ad : Nat → Nat} {F : cs_Mem} (hC : cs_Ctx p s m args c prog_8_method_38_code 5 "ClassStarterModel" D cA A) (hr : meth.sig.returnType = none) (hlk : meth.locks = false) (fuel : Nat) : ∀ (M : cs_Mem) (j : Nat) (y1 : Int32) (y2 : Int32) (y3 : Int32) (H : Heap) (locs : List Loc) (ls : Array Slot), cs_Wd D cA ad M A s H locs → lv_has ls 5 [(0, .ref (ad j)), (1, .int y1), (2, .int y2), (3, .int y3)] → cs_is 5 j → pre_Mo_noteOrder_L16 fuel M j y1 y2 y3 → F = f_Mo_noteOrder_L16 fuel M j y1 y2 y3 → W p l e ({ frames := 7, cells := 0, slots := 0, locals := 159 }) s m args below meth c H locs 0 0 (MQ below (cs_Qv D cA ad F A) args s 0 0 A) (F0 m 16 ls []) := by
  have hx := hC.1
  have hb := hC.2.1
  induction fuel with
  | zero =>
    intro M j y1 y2 y3 H locs ls hw hl g0 hp hf
    exact absurd hp (by simp [pre_Mo_noteOrder_L16])
  | succ fuel ih =>
    intro M j y1 y2 y3 H locs ls hw hl g0 hp hf
    rw [f_Mo_noteOrder_L16] at hf
    rw [pre_Mo_noteOrder_L16] at hp
    refine lv_iload_n hx hb d_Mo_noteOrder_16 rfl (lv_at hl 3 rfl) ?_
    refine lv_iconst (v := 3) hx hb d_Mo_noteOrder_17 (by decide) ?_
    refine lv_icmp_ge (tgt := 51) hx hb d_Mo_noteOrder_18 (by decide) (fun c2 => ?_) (fun c2 => ?_)
    · have hp := hp.1 c2
      have hf := hf.trans (if_pos c2)
      refine lv_iload_n hx hb d_Mo_noteOrder_51 rfl (lv_at hl 2 rfl) ?_
      refine lv_if_eq (tgt := 65) hx hb d_Mo_noteOrder_52 (by decide) (fun c3 => ?_) (fun c3 => ?_)
      · have hp := hp.1 c3
        have hf := hf.trans (if_pos c3)
        exact w_Mo_noteOrder_J65 hC hr hlk M j y1 _ _ ls hw (lv_sub hl [0, 1] rfl) g0 hp hf
      · have hp := hp.2 c3
        have hf := hf.trans (if_neg c3)
        refine lv_aload_n hx hb d_Mo_noteOrder_55 rfl (lv_at hl 0 rfl) ?_
        refine lv_dup hx hb d_Mo_noteOrder_56 rfl ?_
        refine gf_Mo_stuckOrders hC hw g0 wd_579 d_Mo_noteOrder_57 ?_
        refine lv_iconst (v := 1) hx hb d_Mo_noteOrder_60 (by decide) ?_
        refine lv_iadd hx hb d_Mo_noteOrder_61 ?_
        refine pf_Mo_stuckOrders hC hw g0 wd_579 d_Mo_noteOrder_62 (fun N4 H locs eN4 hw => ?_)
        have hp := cs_bdP eN4 hp
        have hf := cs_bdE eN4 hf
        exact w_Mo_noteOrder_J65 hC hr hlk N4 j y1 _ _ ls hw (lv_sub hl [0, 1] rfl) g0 hp hf
    · have hp := hp.2 c2
      have hf := hf.trans (if_neg c2)
      refine lv_aload_n hx hb d_Mo_noteOrder_21 rfl (lv_at hl 0 rfl) ?_
      refine lv_iload_n hx hb d_Mo_noteOrder_22 rfl (lv_at hl 3 rfl) ?_
      have o5 := hp.1
      have hp := hp.2
      refine cs_ret_p hC hw (cs_runV (As := [.int y3]) (rest := []) hC hw g0.2 (ci := 5) rfl rfl (cs_sg_is g0) (c_Mo_resultNow l D cA ad M j g0 y3 o5 _) rfl rfl cw_Mo_178 ⟨Nat.le_of_ble_eq_true rfl, Nat.le_of_ble_eq_true rfl⟩ hl.1 rfl rfl (Nat.le_of_ble_eq_true rfl) d_Mo_noteOrder_23 ⟨Nat.zero_le _, Nat.zero_le _⟩) (fun r6 H locs er6 hw => ?_)
      have hp := cs_bdP er6 hp
      have hf := cs_bdE er6 hf
      refine lv_istore (lv' := [(4, .int r6), (0, .ref (ad j)), (1, .int y1), (2, .int y2), (3, .int y3)]) hx hb d_Mo_noteOrder_26 hl (by decide) rfl (fun ls hl => ?_)
      refine lv_iload hx hb d_Mo_noteOrder_28 (lv_at hl 0 rfl) ?_
      refine lv_bipush (v := 50) hx hb d_Mo_noteOrder_30 (by decide) ?_
      refine lv_icmp_ne (tgt := 37) hx hb d_Mo_noteOrder_32 (by decide) (fun c7 => ?_) (fun c7 => ?_)
      · have hp := hp.2 c7
        have hf := hf.trans (if_neg c7)
        refine lv_bipush (v := 100) hx hb d_Mo_noteOrder_37 (by decide) ?_
        refine lv_iload_n hx hb d_Mo_noteOrder_39 rfl (lv_at hl 2 rfl) ?_
        refine lv_imul hx hb d_Mo_noteOrder_40 ?_
        refine lv_iload hx hb d_Mo_noteOrder_41 (lv_at hl 0 rfl) ?_
        refine lv_iadd hx hb d_Mo_noteOrder_43 ?_
        refine lv_topi (fun z8 ez8 => ?_)
        have hp := cs_bdP ez8 hp
        have hf := cs_bdE ez8 hf
        refine lv_istore_n (lv' := [(1, .int z8), (4, .int r6), (0, .ref (ad j)), (2, .int y2), (3, .int y3)]) hx hb d_Mo_noteOrder_44 rfl hl (by decide) rfl (fun ls hl => ?_)
        obtain ⟨z9, ez9⟩ : ∃ y : Int32, y = y3 + 1 := ⟨_, rfl⟩
        have hp := cs_bdP ez9 hp
        have hf := cs_bdE ez9 hf
        refine lv_iinc (v := z9) (lv' := [(3, .int z9), (1, .int z8), (4, .int r6), (0, .ref (ad j)), (2, .int y2)]) hx hb d_Mo_noteOrder_45 hl (k := 4) rfl (by rw [ez9]; rfl) (by decide) rfl (fun ls hl => ?_)
        refine lv_goto (tgt := 16) hx hb d_Mo_noteOrder_48 (by decide) ?_
        exact ih M j z8 y2 z9 _ _ ls hw (lv_sub hl [3, 1, 4, 0] rfl) g0 hp hf
      · have hp := hp.1 c7
        have hf := hf.trans (if_pos c7)
        refine lv_iconst (v := 1) hx hb d_Mo_noteOrder_35 (by decide) ?_
        refine lv_istore_n (lv' := [(2, .int 1), (4, .int r6), (0, .ref (ad j)), (1, .int y1), (3, .int y3)]) hx hb d_Mo_noteOrder_36 rfl hl (by decide) rfl (fun ls hl => ?_)
        refine lv_bipush (v := 100) hx hb d_Mo_noteOrder_37 (by decide) ?_
        refine lv_iload_n hx hb d_Mo_noteOrder_39 rfl (lv_at hl 3 rfl) ?_
        refine lv_imul hx hb d_Mo_noteOrder_40 ?_
        refine lv_iload hx hb d_Mo_noteOrder_41 (lv_at hl 1 rfl) ?_
        refine lv_iadd hx hb d_Mo_noteOrder_43 ?_
        refine lv_topi (fun z10 ez10 => ?_)
        have hp := cs_bdP ez10 hp
        have hf := cs_bdE ez10 hf
        refine lv_istore_n (lv' := [(1, .int z10), (2, .int 1), (4, .int r6), (0, .ref (ad j)), (3, .int y3)]) hx hb d_Mo_noteOrder_44 rfl hl (by decide) rfl (fun ls hl => ?_)
        obtain ⟨z11, ez11⟩ : ∃ y : Int32, y = y3 + 1 := ⟨_, rfl⟩
        have hp := cs_bdP ez11 hp
        have hf := cs_bdE ez11 hf
        refine lv_iinc (v := z11) (lv' := [(3, .int z11), (1, .int z10), (2, .int 1), (4, .int r6), (0, .ref (ad j))]) hx hb d_Mo_noteOrder_45 hl (k := 4) rfl (by rw [ez11]; rfl) (by decide) rfl (fun ls hl => ?_)
        refine lv_goto (tgt := 16) hx hb d_Mo_noteOrder_48 (by decide) ?_
        exact ih M j z10 1 z11 _ _ ls hw (lv_sub hl [4, 1, 2, 0] rfl) g0 hp hf
set_option maxHeartbeats 4000000 in
set_option maxRecDepth 100000 in
theorem c_Mo_noteOrder (l : Launch) (D : va_G) (cA : Nat → ClassId) (ad : Nat → Nat) (M : cs_Mem) (j : Nat) (hj : cs_is 5 j) (hp : pre_Mo_noteOrder M j) : cs_Cv l ⟨"ClassStarterModel", "noteOrder", "()V"⟩ prog_8_method_38_code 5 none ({ frames := 7, cells := 0, slots := 0, locals := 159 }) D cA ad M [.ref (ad j)] (f_Mo_noteOrder M j) := by
  refine cs_entry (by decide) (Nat.le_of_ble_eq_true rfl) (fun p e s m below meth c A ls hC hr hlk _ hw hl => ?_)
  have hx := hC.1
  have hb := hC.2.1
  have hl : lv_has ls 5 [(0, .ref (ad j))] := hl
  generalize hF : f_Mo_noteOrder M j = F
  have hf := hF.symm
  unfold f_Mo_noteOrder at hf
  unfold pre_Mo_noteOrder at hp
  refine lv_aload_n hx hb d_Mo_noteOrder_0 rfl (lv_at hl 0 rfl) ?_
  refine lv_dup hx hb d_Mo_noteOrder_1 rfl ?_
  refine gf_Mo_orders hC hw hj wd_578 d_Mo_noteOrder_2 ?_
  refine lv_iconst (v := 1) hx hb d_Mo_noteOrder_5 (by decide) ?_
  refine lv_iadd hx hb d_Mo_noteOrder_6 ?_
  refine pf_Mo_orders hC hw hj wd_578 d_Mo_noteOrder_7 (fun N1 H locs eN1 hw => ?_)
  have hp := cs_bdP eN1 hp
  have hf := cs_bdE eN1 hf
  refine lv_iconst (v := 0) hx hb d_Mo_noteOrder_10 (by decide) ?_
  refine lv_istore_n (lv' := [(1, .int 0), (0, .ref (ad j))]) hx hb d_Mo_noteOrder_11 rfl hl (by decide) rfl (fun ls hl => ?_)
  refine lv_iconst (v := 0) hx hb d_Mo_noteOrder_12 (by decide) ?_
  refine lv_istore_n (lv' := [(2, .int 0), (1, .int 0), (0, .ref (ad j))]) hx hb d_Mo_noteOrder_13 rfl hl (by decide) rfl (fun ls hl => ?_)
  refine lv_iconst (v := 0) hx hb d_Mo_noteOrder_14 (by decide) ?_
  refine lv_istore_n (lv' := [(3, .int 0), (2, .int 0), (1, .int 0), (0, .ref (ad j))]) hx hb d_Mo_noteOrder_15 rfl hl (by decide) rfl (fun ls hl => ?_)
  exact w_Mo_noteOrder_L16 hC hr hlk 4000 N1 j 0 0 0 _ _ ls hw (lv_sub hl [3, 2, 1, 0] rfl) hj hp hf
theorem d_Mo_nextThread_0 : decode prog_8_method_39_code 0 = .ok (.iload_n 1, 1) := by decide +kernel
theorem d_Mo_nextThread_1 : decode prog_8_method_39_code 1 = .ok (.istore_n 2, 1) := by decide +kernel
theorem d_Mo_nextThread_2 : decode prog_8_method_39_code 2 = .ok (.iload_n 2, 1) := by decide +kernel
theorem d_Mo_nextThread_3 : decode prog_8_method_39_code 3 = .ok (.iconst 3, 1) := by decide +kernel
theorem d_Mo_nextThread_4 : decode prog_8_method_39_code 4 = .ok (.if_icmp .ge 17, 3) := by decide +kernel
theorem d_Mo_nextThread_7 : decode prog_8_method_39_code 7 = .ok (.aload_n 0, 1) := by decide +kernel
theorem d_Mo_nextThread_8 : decode prog_8_method_39_code 8 = .ok (.iload_n 2, 1) := by decide +kernel
theorem d_Mo_nextThread_9 : decode prog_8_method_39_code 9 = .ok (.invokevirtual 170, 3) := by decide +kernel
theorem d_Mo_nextThread_12 : decode prog_8_method_39_code 12 = .ok (.ifCond .ne 9, 3) := by decide +kernel
theorem d_Mo_nextThread_15 : decode prog_8_method_39_code 15 = .ok (.iinc 2 1, 3) := by decide +kernel
theorem d_Mo_nextThread_18 : decode prog_8_method_39_code 18 = .ok (.goto (-16), 3) := by decide +kernel
theorem d_Mo_nextThread_21 : decode prog_8_method_39_code 21 = .ok (.iload_n 2, 1) := by decide +kernel
theorem d_Mo_nextThread_22 : decode prog_8_method_39_code 22 = .ok (.ireturn, 1) := by decide +kernel
def f_Mo_nextThread_L2 : Nat → cs_Mem → Nat → Int32 → Int32
  | 0, M, j, y2 => 0
  | fuel + 1, M, j, y2 =>
    if 3 ≤ y2 then
      y2
    else
      cs_bd (f_Mo_canStep M j y2) fun (r3 : Int32) =>
      if r3 = 0 then
        cs_bd (y2 + 1) fun (z5 : Int32) =>
        f_Mo_nextThread_L2 fuel M j z5
      else
        y2
def pre_Mo_nextThread_L2 : Nat → cs_Mem → Nat → Int32 → Prop
  | 0, _, _, _ => False
  | fuel + 1, M, j, y2 =>
    (3 ≤ y2 →
      True
    ) ∧ (¬ (3 ≤ y2) →
      (pre_Mo_canStep M j y2) ∧
      cs_bd (f_Mo_canStep M j y2) fun (r3 : Int32) =>
      (r3 = 0 →
        cs_bd (y2 + 1) fun (z5 : Int32) =>
        pre_Mo_nextThread_L2 fuel M j z5
      ) ∧ (¬ (r3 = 0) →
        True
      )
    )
def f_Mo_nextThread (M : cs_Mem) (j : Nat) (x1 : Int32) : Int32 :=
  f_Mo_nextThread_L2 5 M j x1
def pre_Mo_nextThread (M : cs_Mem) (j : Nat) (x1 : Int32) : Prop :=
  pre_Mo_nextThread_L2 5 M j x1
set_option maxHeartbeats 4000000 in
set_option maxRecDepth 100000 in
theorem w_Mo_nextThread_L2 {p : Program} {l : Launch} {e : Env} {s : State} {m : MethodId} {args : Array Value} {below : List Frame} {meth : Method} {c : Code} {D : va_G} {cA : Nat → ClassId} {A : Nat → Prop} {ad : Nat → Nat} {F : Int32} (hC : cs_Ctx p s m args c prog_8_method_39_code 3 "ClassStarterModel" D cA A) (hr : meth.sig.returnType = (some .int)) (hlk : meth.locks = false) (fuel : Nat) : ∀ (M : cs_Mem) (j : Nat) (y2 : Int32) (H : Heap) (locs : List Loc) (ls : Array Slot), cs_Wd D cA ad M A s H locs → lv_has ls 3 [(0, .ref (ad j)), (2, .int y2)] → cs_is 5 j → pre_Mo_nextThread_L2 fuel M j y2 → F = f_Mo_nextThread_L2 fuel M j y2 → W p l e ({ frames := 6, cells := 0, slots := 0, locals := 137 }) s m args below meth c H locs 0 0 (MQ below (cs_Qi D cA ad (F, M) A) args s 0 0 A) (F0 m 2 ls []) := by
  have hx := hC.1
  have hb := hC.2.1
  induction fuel with
  | zero =>
    intro M j y2 H locs ls hw hl g0 hp hf
    exact absurd hp (by simp [pre_Mo_nextThread_L2])
  | succ fuel ih =>
    intro M j y2 H locs ls hw hl g0 hp hf
    rw [f_Mo_nextThread_L2] at hf
    rw [pre_Mo_nextThread_L2] at hp
    refine lv_iload_n hx hb d_Mo_nextThread_2 rfl (lv_at hl 1 rfl) ?_
    refine lv_iconst (v := 3) hx hb d_Mo_nextThread_3 (by decide) ?_
    refine lv_icmp_ge (tgt := 21) hx hb d_Mo_nextThread_4 (by decide) (fun c1 => ?_) (fun c1 => ?_)
    · have hp := hp.1 c1
      have hf := hf.trans (if_pos c1)
      refine lv_iload_n hx hb d_Mo_nextThread_21 rfl (lv_at hl 1 rfl) ?_
      exact cs_iret hC hw hr hlk (congrArg (fun z => (z, M)) hf) d_Mo_nextThread_22
    · have hp := hp.2 c1
      have hf := hf.trans (if_neg c1)
      refine lv_aload_n hx hb d_Mo_nextThread_7 rfl (lv_at hl 0 rfl) ?_
      refine lv_iload_n hx hb d_Mo_nextThread_8 rfl (lv_at hl 1 rfl) ?_
      have o2 := hp.1
      have hp := hp.2
      refine cs_ret_p hC hw (cs_runV (As := [.int y2]) (rest := []) hC hw g0.2 (ci := 5) rfl rfl (cs_sg_is g0) (c_Mo_canStep l D cA ad M j g0 y2 o2 _) rfl rfl cw_Mo_170 ⟨Nat.le_of_ble_eq_true rfl, Nat.le_of_ble_eq_true rfl⟩ hl.1 rfl rfl (Nat.le_of_ble_eq_true rfl) d_Mo_nextThread_9 ⟨Nat.zero_le _, Nat.zero_le _⟩) (fun r3 H locs er3 hw => ?_)
      have hp := cs_bdP er3 hp
      have hf := cs_bdE er3 hf
      refine lv_if_ne (tgt := 21) hx hb d_Mo_nextThread_12 (by decide) (fun c4 => ?_) (fun c4 => ?_)
      · have hp := hp.2 c4
        have hf := hf.trans (if_neg c4)
        refine lv_iload_n hx hb d_Mo_nextThread_21 rfl (lv_at hl 1 rfl) ?_
        exact cs_iret hC hw hr hlk (congrArg (fun z => (z, M)) hf) d_Mo_nextThread_22
      · have hp := hp.1 c4
        have hf := hf.trans (if_pos c4)
        obtain ⟨z5, ez5⟩ : ∃ y : Int32, y = y2 + 1 := ⟨_, rfl⟩
        have hp := cs_bdP ez5 hp
        have hf := cs_bdE ez5 hf
        refine lv_iinc (v := z5) (lv' := [(2, .int z5), (0, .ref (ad j))]) hx hb d_Mo_nextThread_15 hl (k := 1) rfl (by rw [ez5]; rfl) (by decide) rfl (fun ls hl => ?_)
        refine lv_goto (tgt := 2) hx hb d_Mo_nextThread_18 (by decide) ?_
        exact ih M j z5 _ _ ls hw (lv_sub hl [1, 0] rfl) g0 hp hf
set_option maxHeartbeats 4000000 in
set_option maxRecDepth 100000 in
theorem c_Mo_nextThread (l : Launch) (D : va_G) (cA : Nat → ClassId) (ad : Nat → Nat) (M : cs_Mem) (j : Nat) (hj : cs_is 5 j) (x1 : Int32) (hp : pre_Mo_nextThread M j x1) : cs_Ci l ⟨"ClassStarterModel", "nextThread", "(I)I"⟩ prog_8_method_39_code 3 (some .int) ({ frames := 6, cells := 0, slots := 0, locals := 137 }) D cA ad M [.ref (ad j), .int x1] ((f_Mo_nextThread M j x1, M)) := by
  refine cs_entry (by decide) (Nat.le_of_ble_eq_true rfl) (fun p e s m below meth c A ls hC hr hlk _ hw hl => ?_)
  have hx := hC.1
  have hb := hC.2.1
  have hl : lv_has ls 3 [(0, .ref (ad j)), (1, .int x1)] := hl
  generalize hF : f_Mo_nextThread M j x1 = F
  have hf := hF.symm
  unfold f_Mo_nextThread at hf
  unfold pre_Mo_nextThread at hp
  refine lv_iload_n hx hb d_Mo_nextThread_0 rfl (lv_at hl 1 rfl) ?_
  refine lv_istore_n (lv' := [(2, .int x1), (0, .ref (ad j)), (1, .int x1)]) hx hb d_Mo_nextThread_1 rfl hl (by decide) rfl (fun ls hl => ?_)
  exact w_Mo_nextThread_L2 hC hr hlk 5 M j x1 _ _ ls hw (lv_sub hl [1, 0] rfl) hj hp hf
theorem d_Mo_explore_0 : decode prog_8_method_40_code 0 = .ok (.aload_n 0, 1) := by decide +kernel
theorem d_Mo_explore_1 : decode prog_8_method_40_code 1 = .ok (.aload_n 0, 1) := by decide +kernel
theorem d_Mo_explore_2 : decode prog_8_method_40_code 2 = .ok (.aload_n 0, 1) := by decide +kernel
theorem d_Mo_explore_3 : decode prog_8_method_40_code 3 = .ok (.iconst 0, 1) := by decide +kernel
theorem d_Mo_explore_4 : decode prog_8_method_40_code 4 = .ok (.dup_x1, 1) := by decide +kernel
theorem d_Mo_explore_5 : decode prog_8_method_40_code 5 = .ok (.putfield 184, 3) := by decide +kernel
theorem d_Mo_explore_8 : decode prog_8_method_40_code 8 = .ok (.dup_x1, 1) := by decide +kernel
theorem d_Mo_explore_9 : decode prog_8_method_40_code 9 = .ok (.putfield 181, 3) := by decide +kernel
theorem d_Mo_explore_12 : decode prog_8_method_40_code 12 = .ok (.putfield 187, 3) := by decide +kernel
theorem d_Mo_explore_15 : decode prog_8_method_40_code 15 = .ok (.aload_n 0, 1) := by decide +kernel
theorem d_Mo_explore_16 : decode prog_8_method_40_code 16 = .ok (.iconst 1, 1) := by decide +kernel
theorem d_Mo_explore_17 : decode prog_8_method_40_code 17 = .ok (.putfield 91, 3) := by decide +kernel
theorem d_Mo_explore_20 : decode prog_8_method_40_code 20 = .ok (.iconst 0, 1) := by decide +kernel
theorem d_Mo_explore_21 : decode prog_8_method_40_code 21 = .ok (.istore_n 1, 1) := by decide +kernel
theorem d_Mo_explore_22 : decode prog_8_method_40_code 22 = .ok (.iconst 0, 1) := by decide +kernel
theorem d_Mo_explore_23 : decode prog_8_method_40_code 23 = .ok (.istore_n 2, 1) := by decide +kernel
theorem d_Mo_explore_24 : decode prog_8_method_40_code 24 = .ok (.iconst 1, 1) := by decide +kernel
theorem d_Mo_explore_25 : decode prog_8_method_40_code 25 = .ok (.istore_n 3, 1) := by decide +kernel
theorem d_Mo_explore_26 : decode prog_8_method_40_code 26 = .ok (.iload_n 3, 1) := by decide +kernel
theorem d_Mo_explore_27 : decode prog_8_method_40_code 27 = .ok (.ifCond .eq 136, 3) := by decide +kernel
theorem d_Mo_explore_30 : decode prog_8_method_40_code 30 = .ok (.aload_n 0, 1) := by decide +kernel
theorem d_Mo_explore_31 : decode prog_8_method_40_code 31 = .ok (.invokevirtual 161, 3) := by decide +kernel
theorem d_Mo_explore_34 : decode prog_8_method_40_code 34 = .ok (.iconst 0, 1) := by decide +kernel
theorem d_Mo_explore_35 : decode prog_8_method_40_code 35 = .ok (.istore 4, 2) := by decide +kernel
theorem d_Mo_explore_37 : decode prog_8_method_40_code 37 = .ok (.iload 4, 2) := by decide +kernel
theorem d_Mo_explore_39 : decode prog_8_method_40_code 39 = .ok (.iload_n 1, 1) := by decide +kernel
theorem d_Mo_explore_40 : decode prog_8_method_40_code 40 = .ok (.if_icmp .ge 20, 3) := by decide +kernel
theorem d_Mo_explore_43 : decode prog_8_method_40_code 43 = .ok (.aload_n 0, 1) := by decide +kernel
theorem d_Mo_explore_44 : decode prog_8_method_40_code 44 = .ok (.aload_n 0, 1) := by decide +kernel
theorem d_Mo_explore_45 : decode prog_8_method_40_code 45 = .ok (.getfield 53, 3) := by decide +kernel
theorem d_Mo_explore_48 : decode prog_8_method_40_code 48 = .ok (.iload 4, 2) := by decide +kernel
theorem d_Mo_explore_50 : decode prog_8_method_40_code 50 = .ok (.iaload, 1) := by decide +kernel
theorem d_Mo_explore_51 : decode prog_8_method_40_code 51 = .ok (.invokevirtual 167, 3) := by decide +kernel
theorem d_Mo_explore_54 : decode prog_8_method_40_code 54 = .ok (.iinc 4 1, 3) := by decide +kernel
theorem d_Mo_explore_57 : decode prog_8_method_40_code 57 = .ok (.goto (-20), 3) := by decide +kernel
theorem d_Mo_explore_60 : decode prog_8_method_40_code 60 = .ok (.aload_n 0, 1) := by decide +kernel
theorem d_Mo_explore_61 : decode prog_8_method_40_code 61 = .ok (.iload_n 2, 1) := by decide +kernel
theorem d_Mo_explore_62 : decode prog_8_method_40_code 62 = .ok (.invokevirtual 190, 3) := by decide +kernel
theorem d_Mo_explore_65 : decode prog_8_method_40_code 65 = .ok (.istore 4, 2) := by decide +kernel
theorem d_Mo_explore_67 : decode prog_8_method_40_code 67 = .ok (.iload 4, 2) := by decide +kernel
theorem d_Mo_explore_69 : decode prog_8_method_40_code 69 = .ok (.iconst 3, 1) := by decide +kernel
theorem d_Mo_explore_70 : decode prog_8_method_40_code 70 = .ok (.if_icmp .ge 19, 3) := by decide +kernel
theorem d_Mo_explore_73 : decode prog_8_method_40_code 73 = .ok (.aload_n 0, 1) := by decide +kernel
theorem d_Mo_explore_74 : decode prog_8_method_40_code 74 = .ok (.getfield 53, 3) := by decide +kernel
theorem d_Mo_explore_77 : decode prog_8_method_40_code 77 = .ok (.iload_n 1, 1) := by decide +kernel
theorem d_Mo_explore_78 : decode prog_8_method_40_code 78 = .ok (.iload 4, 2) := by decide +kernel
theorem d_Mo_explore_80 : decode prog_8_method_40_code 80 = .ok (.iastore, 1) := by decide +kernel
theorem d_Mo_explore_81 : decode prog_8_method_40_code 81 = .ok (.iinc 1 1, 3) := by decide +kernel
theorem d_Mo_explore_84 : decode prog_8_method_40_code 84 = .ok (.iconst 0, 1) := by decide +kernel
theorem d_Mo_explore_85 : decode prog_8_method_40_code 85 = .ok (.istore_n 2, 1) := by decide +kernel
theorem d_Mo_explore_86 : decode prog_8_method_40_code 86 = .ok (.goto (-60), 3) := by decide +kernel
theorem d_Mo_explore_89 : decode prog_8_method_40_code 89 = .ok (.iload_n 2, 1) := by decide +kernel
theorem d_Mo_explore_90 : decode prog_8_method_40_code 90 = .ok (.ifCond .ne 7, 3) := by decide +kernel
theorem d_Mo_explore_93 : decode prog_8_method_40_code 93 = .ok (.aload_n 0, 1) := by decide +kernel
theorem d_Mo_explore_94 : decode prog_8_method_40_code 94 = .ok (.invokevirtual 193, 3) := by decide +kernel
theorem d_Mo_explore_97 : decode prog_8_method_40_code 97 = .ok (.aload_n 0, 1) := by decide +kernel
theorem d_Mo_explore_98 : decode prog_8_method_40_code 98 = .ok (.getfield 181, 3) := by decide +kernel
theorem d_Mo_explore_101 : decode prog_8_method_40_code 101 = .ok (.sipush 3000, 3) := by decide +kernel
theorem d_Mo_explore_104 : decode prog_8_method_40_code 104 = .ok (.if_icmp .le 26, 3) := by decide +kernel
theorem d_Mo_explore_107 : decode prog_8_method_40_code 107 = .ok (.aload_n 0, 1) := by decide +kernel
theorem d_Mo_explore_108 : decode prog_8_method_40_code 108 = .ok (.aload_n 0, 1) := by decide +kernel
theorem d_Mo_explore_109 : decode prog_8_method_40_code 109 = .ok (.aload_n 0, 1) := by decide +kernel
theorem d_Mo_explore_110 : decode prog_8_method_40_code 110 = .ok (.iconst 0, 1) := by decide +kernel
theorem d_Mo_explore_111 : decode prog_8_method_40_code 111 = .ok (.dup_x1, 1) := by decide +kernel
theorem d_Mo_explore_112 : decode prog_8_method_40_code 112 = .ok (.putfield 184, 3) := by decide +kernel
theorem d_Mo_explore_115 : decode prog_8_method_40_code 115 = .ok (.dup_x1, 1) := by decide +kernel
theorem d_Mo_explore_116 : decode prog_8_method_40_code 116 = .ok (.putfield 181, 3) := by decide +kernel
theorem d_Mo_explore_119 : decode prog_8_method_40_code 119 = .ok (.putfield 187, 3) := by decide +kernel
theorem d_Mo_explore_122 : decode prog_8_method_40_code 122 = .ok (.aload_n 0, 1) := by decide +kernel
theorem d_Mo_explore_123 : decode prog_8_method_40_code 123 = .ok (.iconst 0, 1) := by decide +kernel
theorem d_Mo_explore_124 : decode prog_8_method_40_code 124 = .ok (.putfield 91, 3) := by decide +kernel
theorem d_Mo_explore_127 : decode prog_8_method_40_code 127 = .ok (.bipush (-2), 2) := by decide +kernel
theorem d_Mo_explore_129 : decode prog_8_method_40_code 129 = .ok (.ireturn, 1) := by decide +kernel
theorem d_Mo_explore_130 : decode prog_8_method_40_code 130 = .ok (.iload_n 1, 1) := by decide +kernel
theorem d_Mo_explore_131 : decode prog_8_method_40_code 131 = .ok (.ifCond .le 7, 3) := by decide +kernel
theorem d_Mo_explore_134 : decode prog_8_method_40_code 134 = .ok (.iconst 1, 1) := by decide +kernel
theorem d_Mo_explore_135 : decode prog_8_method_40_code 135 = .ok (.goto 4, 3) := by decide +kernel
theorem d_Mo_explore_138 : decode prog_8_method_40_code 138 = .ok (.iconst 0, 1) := by decide +kernel
theorem d_Mo_explore_139 : decode prog_8_method_40_code 139 = .ok (.istore_n 3, 1) := by decide +kernel
theorem d_Mo_explore_140 : decode prog_8_method_40_code 140 = .ok (.iinc 1 (-1), 3) := by decide +kernel
theorem d_Mo_explore_143 : decode prog_8_method_40_code 143 = .ok (.iload_n 3, 1) := by decide +kernel
theorem d_Mo_explore_144 : decode prog_8_method_40_code 144 = .ok (.ifCond .eq 14, 3) := by decide +kernel
theorem d_Mo_explore_147 : decode prog_8_method_40_code 147 = .ok (.aload_n 0, 1) := by decide +kernel
theorem d_Mo_explore_148 : decode prog_8_method_40_code 148 = .ok (.getfield 53, 3) := by decide +kernel
theorem d_Mo_explore_151 : decode prog_8_method_40_code 151 = .ok (.iload_n 1, 1) := by decide +kernel
theorem d_Mo_explore_152 : decode prog_8_method_40_code 152 = .ok (.iaload, 1) := by decide +kernel
theorem d_Mo_explore_153 : decode prog_8_method_40_code 153 = .ok (.iconst 1, 1) := by decide +kernel
theorem d_Mo_explore_154 : decode prog_8_method_40_code 154 = .ok (.iadd, 1) := by decide +kernel
theorem d_Mo_explore_155 : decode prog_8_method_40_code 155 = .ok (.goto 4, 3) := by decide +kernel
theorem d_Mo_explore_158 : decode prog_8_method_40_code 158 = .ok (.iconst 0, 1) := by decide +kernel
theorem d_Mo_explore_159 : decode prog_8_method_40_code 159 = .ok (.istore_n 2, 1) := by decide +kernel
theorem d_Mo_explore_160 : decode prog_8_method_40_code 160 = .ok (.goto (-134), 3) := by decide +kernel
theorem d_Mo_explore_163 : decode prog_8_method_40_code 163 = .ok (.aload_n 0, 1) := by decide +kernel
theorem d_Mo_explore_164 : decode prog_8_method_40_code 164 = .ok (.getfield 187, 3) := by decide +kernel
theorem d_Mo_explore_167 : decode prog_8_method_40_code 167 = .ok (.ireturn, 1) := by decide +kernel
def f_Mo_explore_S37 : Nat → cs_Mem → Nat → Int32 → Int32 → Int32 → Int32 → cs_Mem
  | 0, M, j, y1, y2, y3, y4 => M
  | fuel + 1, M, j, y1, y2, y3, y4 =>
    if y1 ≤ y4 then
      M
    else
      cs_bd (f_Mo_stepOf M j (M 77 y4.toNatClampNeg)) fun (u49 : cs_Mem) =>
      cs_bd (y4 + 1) fun (z50 : Int32) =>
      f_Mo_explore_S37 fuel u49 j y1 y2 y3 z50
def pre_Mo_explore_S37 : Nat → cs_Mem → Nat → Int32 → Int32 → Int32 → Int32 → Prop
  | 0, _, _, _, _, _, _ => False
  | fuel + 1, M, j, y1, y2, y3, y4 =>
    (y1 ≤ y4 →
      True
    ) ∧ (¬ (y1 ≤ y4) →
      (vp_in y4 (cs_ln M 77)) ∧
      (pre_Mo_stepOf M j (M 77 y4.toNatClampNeg)) ∧
      cs_bd (f_Mo_stepOf M j (M 77 y4.toNatClampNeg)) fun (u49 : cs_Mem) =>
      cs_bd (y4 + 1) fun (z50 : Int32) =>
      pre_Mo_explore_S37 fuel u49 j y1 y2 y3 z50
    )
def f_Mo_explore_L26 : Nat → cs_Mem → Nat → Int32 → Int32 → Int32 → Int32 × cs_Mem
  | 0, M, j, y1, y2, y3 => (0, M)
  | fuel + 1, M, j, y1, y2, y3 =>
    if y3 = 0 then
      (M j 28, M)
    else
      cs_bd (f_Mo_start M j) fun (u8 : cs_Mem) =>
      cs_bd (f_Mo_explore_S37 500 u8 j y1 y2 y3 0) fun (N10 : cs_Mem) =>
      cs_bd (f_Mo_nextThread N10 j y2) fun (r12 : Int32) =>
      if 3 ≤ r12 then
        if y2 = 0 then
          cs_bd (f_Mo_noteOrder N10 j) fun (u29 : cs_Mem) =>
          if (u29 j 29) ≤ 3000 then
            if y1 ≤ 0 then
              cs_bd (y1 + (-1)) fun (z32 : Int32) =>
              f_Mo_explore_L26 fuel u29 j z32 0 0
            else
              cs_bd (y1 + (-1)) fun (z34 : Int32) =>
              cs_bd ((u29 77 z34.toNatClampNeg) + 1) fun (z37 : Int32) =>
              f_Mo_explore_L26 fuel u29 j z34 z37 1
          else
            cs_bd (cs_up u29 j (upd (u29 j) 30 0)) fun (N38 : cs_Mem) =>
            cs_bd (cs_up N38 j (upd (N38 j) 29 0)) fun (N39 : cs_Mem) =>
            cs_bd (cs_up N39 j (upd (N39 j) 28 0)) fun (N40 : cs_Mem) =>
            cs_bd (cs_up N40 j (upd (N40 j) 31 0)) fun (N41 : cs_Mem) =>
            ((-2), N41)
        else
          if (N10 j 29) ≤ 3000 then
            if y1 ≤ 0 then
              cs_bd (y1 + (-1)) fun (z17 : Int32) =>
              f_Mo_explore_L26 fuel N10 j z17 0 0
            else
              cs_bd (y1 + (-1)) fun (z19 : Int32) =>
              cs_bd ((N10 77 z19.toNatClampNeg) + 1) fun (z22 : Int32) =>
              f_Mo_explore_L26 fuel N10 j z19 z22 1
          else
            cs_bd (cs_up N10 j (upd (N10 j) 30 0)) fun (N23 : cs_Mem) =>
            cs_bd (cs_up N23 j (upd (N23 j) 29 0)) fun (N24 : cs_Mem) =>
            cs_bd (cs_up N24 j (upd (N24 j) 28 0)) fun (N25 : cs_Mem) =>
            cs_bd (cs_up N25 j (upd (N25 j) 31 0)) fun (N26 : cs_Mem) =>
            ((-2), N26)
      else
        cs_bd (cs_up N10 77 (upd (N10 77) y1.toNatClampNeg r12)) fun (N44 : cs_Mem) =>
        cs_bd (y1 + 1) fun (z45 : Int32) =>
        f_Mo_explore_L26 fuel N44 j z45 0 y3
def pre_Mo_explore_L26 : Nat → cs_Mem → Nat → Int32 → Int32 → Int32 → Prop
  | 0, _, _, _, _, _ => False
  | fuel + 1, M, j, y1, y2, y3 =>
    (y3 = 0 →
      True
    ) ∧ (¬ (y3 = 0) →
      (pre_Mo_start M j) ∧
      cs_bd (f_Mo_start M j) fun (u8 : cs_Mem) =>
      (pre_Mo_explore_S37 500 u8 j y1 y2 y3 0) ∧
      cs_bd (f_Mo_explore_S37 500 u8 j y1 y2 y3 0) fun (N10 : cs_Mem) =>
      (pre_Mo_nextThread N10 j y2) ∧
      cs_bd (f_Mo_nextThread N10 j y2) fun (r12 : Int32) =>
      (3 ≤ r12 →
        (y2 = 0 →
          (pre_Mo_noteOrder N10 j) ∧
          cs_bd (f_Mo_noteOrder N10 j) fun (u29 : cs_Mem) =>
          ((u29 j 29) ≤ 3000 →
            (y1 ≤ 0 →
              cs_bd (y1 + (-1)) fun (z32 : Int32) =>
              pre_Mo_explore_L26 fuel u29 j z32 0 0
            ) ∧ (¬ (y1 ≤ 0) →
              cs_bd (y1 + (-1)) fun (z34 : Int32) =>
              (vp_in z34 (cs_ln u29 77)) ∧
              cs_bd ((u29 77 z34.toNatClampNeg) + 1) fun (z37 : Int32) =>
              pre_Mo_explore_L26 fuel u29 j z34 z37 1
            )
          ) ∧ (¬ ((u29 j 29) ≤ 3000) →
            True
          )
        ) ∧ (¬ (y2 = 0) →
          ((N10 j 29) ≤ 3000 →
            (y1 ≤ 0 →
              cs_bd (y1 + (-1)) fun (z17 : Int32) =>
              pre_Mo_explore_L26 fuel N10 j z17 0 0
            ) ∧ (¬ (y1 ≤ 0) →
              cs_bd (y1 + (-1)) fun (z19 : Int32) =>
              (vp_in z19 (cs_ln N10 77)) ∧
              cs_bd ((N10 77 z19.toNatClampNeg) + 1) fun (z22 : Int32) =>
              pre_Mo_explore_L26 fuel N10 j z19 z22 1
            )
          ) ∧ (¬ ((N10 j 29) ≤ 3000) →
            True
          )
        )
      ) ∧ (¬ (3 ≤ r12) →
        (vp_in y1 (cs_ln N10 77)) ∧
        cs_bd (cs_up N10 77 (upd (N10 77) y1.toNatClampNeg r12)) fun (N44 : cs_Mem) =>
        cs_bd (y1 + 1) fun (z45 : Int32) =>
        pre_Mo_explore_L26 fuel N44 j z45 0 y3
      )
    )
def f_Mo_explore (M : cs_Mem) (j : Nat) : Int32 × cs_Mem :=
  cs_bd (cs_up M j (upd (M j) 30 0)) fun (N1 : cs_Mem) =>
  cs_bd (cs_up N1 j (upd (N1 j) 29 0)) fun (N2 : cs_Mem) =>
  cs_bd (cs_up N2 j (upd (N2 j) 28 0)) fun (N3 : cs_Mem) =>
  cs_bd (cs_up N3 j (upd (N3 j) 31 1)) fun (N4 : cs_Mem) =>
  f_Mo_explore_L26 2000000 N4 j 0 0 1
def pre_Mo_explore (M : cs_Mem) (j : Nat) : Prop :=
  cs_bd (cs_up M j (upd (M j) 30 0)) fun (N1 : cs_Mem) =>
  cs_bd (cs_up N1 j (upd (N1 j) 29 0)) fun (N2 : cs_Mem) =>
  cs_bd (cs_up N2 j (upd (N2 j) 28 0)) fun (N3 : cs_Mem) =>
  cs_bd (cs_up N3 j (upd (N3 j) 31 1)) fun (N4 : cs_Mem) =>
  pre_Mo_explore_L26 2000000 N4 j 0 0 1
set_option maxHeartbeats 4000000 in
set_option maxRecDepth 100000 in
theorem w_Mo_explore_S37 {p : Program} {l : Launch} {e : Env} {s : State} {m : MethodId} {args : Array Value} {below : List Frame} {meth : Method} {c : Code} {D : va_G} {cA : Nat → ClassId} {A : Nat → Prop} {ad : Nat → Nat} {Q : State → Prop} (hC : cs_Ctx p s m args c prog_8_method_40_code 5 "ClassStarterModel" D cA A) (fuel : Nat) : ∀ (M : cs_Mem) (j : Nat) (y1 : Int32) (y2 : Int32) (y3 : Int32) (y4 : Int32) (H : Heap) (locs : List Loc) (ls : Array Slot), cs_Wd D cA ad M A s H locs → lv_has ls 5 [(0, .ref (ad j)), (1, .int y1), (2, .int y2), (3, .int y3), (4, .int y4)] → cs_is 5 j → pre_Mo_explore_S37 fuel M j y1 y2 y3 y4 → (∀ (N : cs_Mem) (H : Heap) (locs : List Loc) (ls : Array Slot), N = f_Mo_explore_S37 fuel M j y1 y2 y3 y4 → cs_Wd D cA ad N A s H locs → lv_has ls 5 [(0, .ref (ad j)), (1, .int y1), (2, .int y2), (3, .int y3)] → W p l e ({ frames := 8, cells := 0, slots := 0, locals := 183 }) s m args below meth c H locs 0 0 Q (F0 m 60 ls [])) → W p l e ({ frames := 8, cells := 0, slots := 0, locals := 183 }) s m args below meth c H locs 0 0 Q (F0 m 37 ls []) := by
  have hx := hC.1
  have hb := hC.2.1
  induction fuel with
  | zero =>
    intro M j y1 y2 y3 y4 H locs ls hw hl g0 hp hk
    exact absurd hp (by simp [pre_Mo_explore_S37])
  | succ fuel ih =>
    intro M j y1 y2 y3 y4 H locs ls hw hl g0 hp hk
    generalize hF : f_Mo_explore_S37 (fuel + 1) M j y1 y2 y3 y4 = F at hk
    have hf := hF.symm
    rw [f_Mo_explore_S37] at hf
    rw [pre_Mo_explore_S37] at hp
    refine lv_iload hx hb d_Mo_explore_37 (lv_at hl 4 rfl) ?_
    refine lv_iload_n hx hb d_Mo_explore_39 rfl (lv_at hl 1 rfl) ?_
    refine lv_icmp_ge (tgt := 60) hx hb d_Mo_explore_40 (by decide) (fun c46 => ?_) (fun c46 => ?_)
    · have hp := hp.1 c46
      have hf := hf.trans (if_pos c46)
      exact hk M _ _ ls hf.symm hw (lv_sub hl [0, 1, 2, 3] rfl)
    · have hp := hp.2 c46
      have hf := hf.trans (if_neg c46)
      refine lv_aload_n hx hb d_Mo_explore_43 rfl (lv_at hl 0 rfl) ?_
      refine lv_aload_n hx hb d_Mo_explore_44 rfl (lv_at hl 0 rfl) ?_
      refine gf_Mo_tried hC hw g0 wd_566 d_Mo_explore_45 ?_
      refine lv_iload hx hb d_Mo_explore_48 (lv_at hl 4 rfl) ?_
      have o47 := hp.1
      have hp := hp.2
      refine cs_iald hC hw is_77 o47 d_Mo_explore_50 ?_
      have o48 := hp.1
      have hp := hp.2
      refine cs_ret_v hC hw (cs_runV (As := [.int (M 77 y4.toNatClampNeg)]) (rest := []) hC hw g0.2 (ci := 5) rfl rfl (cs_sg_is g0) (c_Mo_stepOf l D cA ad M j g0 (M 77 y4.toNatClampNeg) o48 _) rfl rfl cw_Mo_167 ⟨Nat.le_of_ble_eq_true rfl, Nat.le_of_ble_eq_true rfl⟩ hl.1 rfl rfl (Nat.le_of_ble_eq_true rfl) d_Mo_explore_51 ⟨Nat.zero_le _, Nat.zero_le _⟩) (fun u49 H locs eu49 hw => ?_)
      have hp := cs_bdP eu49 hp
      have hf := cs_bdE eu49 hf
      obtain ⟨z50, ez50⟩ : ∃ y : Int32, y = y4 + 1 := ⟨_, rfl⟩
      have hp := cs_bdP ez50 hp
      have hf := cs_bdE ez50 hf
      refine lv_iinc (v := z50) (lv' := [(4, .int z50), (0, .ref (ad j)), (1, .int y1), (2, .int y2), (3, .int y3)]) hx hb d_Mo_explore_54 hl (k := 4) rfl (by rw [ez50]; rfl) (by decide) rfl (fun ls hl => ?_)
      refine lv_goto (tgt := 37) hx hb d_Mo_explore_57 (by decide) ?_
      exact ih u49 j y1 y2 y3 z50 _ _ ls hw (lv_sub hl [1, 2, 3, 4, 0] rfl) g0 hp (fun N H locs ls eN hw hl => hk N H locs ls (eN.trans hf.symm) hw hl)
set_option maxHeartbeats 4000000 in
set_option maxRecDepth 100000 in
theorem w_Mo_explore_L26 {p : Program} {l : Launch} {e : Env} {s : State} {m : MethodId} {args : Array Value} {below : List Frame} {meth : Method} {c : Code} {D : va_G} {cA : Nat → ClassId} {A : Nat → Prop} {ad : Nat → Nat} {F : Int32 × cs_Mem} (hC : cs_Ctx p s m args c prog_8_method_40_code 5 "ClassStarterModel" D cA A) (hr : meth.sig.returnType = (some .int)) (hlk : meth.locks = false) (fuel : Nat) : ∀ (M : cs_Mem) (j : Nat) (y1 : Int32) (y2 : Int32) (y3 : Int32) (H : Heap) (locs : List Loc) (ls : Array Slot), cs_Wd D cA ad M A s H locs → lv_has ls 5 [(0, .ref (ad j)), (1, .int y1), (2, .int y2), (3, .int y3)] → cs_is 5 j → pre_Mo_explore_L26 fuel M j y1 y2 y3 → F = f_Mo_explore_L26 fuel M j y1 y2 y3 → W p l e ({ frames := 8, cells := 0, slots := 0, locals := 183 }) s m args below meth c H locs 0 0 (MQ below (cs_Qi D cA ad F A) args s 0 0 A) (F0 m 26 ls []) := by
  have hx := hC.1
  have hb := hC.2.1
  induction fuel with
  | zero =>
    intro M j y1 y2 y3 H locs ls hw hl g0 hp hf
    exact absurd hp (by simp [pre_Mo_explore_L26])
  | succ fuel ih =>
    intro M j y1 y2 y3 H locs ls hw hl g0 hp hf
    rw [f_Mo_explore_L26] at hf
    rw [pre_Mo_explore_L26] at hp
    refine lv_iload_n hx hb d_Mo_explore_26 rfl (lv_at hl 3 rfl) ?_
    refine lv_if_eq (tgt := 163) hx hb d_Mo_explore_27 (by decide) (fun c6 => ?_) (fun c6 => ?_)
    · have hp := hp.1 c6
      have hf := hf.trans (if_pos c6)
      refine lv_aload_n hx hb d_Mo_explore_163 rfl (lv_at hl 0 rfl) ?_
      refine gf_Mo_found hC hw g0 wd_577 d_Mo_explore_164 ?_
      exact cs_iret hC hw hr hlk hf d_Mo_explore_167
    · have hp := hp.2 c6
      have hf := hf.trans (if_neg c6)
      refine lv_aload_n hx hb d_Mo_explore_30 rfl (lv_at hl 0 rfl) ?_
      have o7 := hp.1
      have hp := hp.2
      refine cs_ret_v hC hw (cs_runV (As := []) (rest := []) hC hw g0.2 (ci := 5) rfl rfl (cs_sg_is g0) (c_Mo_start l D cA ad M j g0 o7 _) rfl rfl cw_Mo_161 ⟨Nat.le_of_ble_eq_true rfl, Nat.le_of_ble_eq_true rfl⟩ hl.1 rfl rfl (Nat.le_of_ble_eq_true rfl) d_Mo_explore_31 ⟨Nat.zero_le _, Nat.zero_le _⟩) (fun u8 H locs eu8 hw => ?_)
      have hp := cs_bdP eu8 hp
      have hf := cs_bdE eu8 hf
      refine lv_iconst (v := 0) hx hb d_Mo_explore_34 (by decide) ?_
      refine lv_istore (lv' := [(4, .int 0), (0, .ref (ad j)), (1, .int y1), (2, .int y2), (3, .int y3)]) hx hb d_Mo_explore_35 hl (by decide) rfl (fun ls hl => ?_)
      have o9 := hp.1
      have hp := hp.2
      refine w_Mo_explore_S37 hC 500 u8 j y1 y2 y3 0 _ _ ls hw (lv_sub hl [1, 2, 3, 4, 0] rfl) g0 o9 (fun N10 H locs ls eN10 hw hl => ?_)
      have hp := cs_bdP eN10 hp
      have hf := cs_bdE eN10 hf
      refine lv_aload_n hx hb d_Mo_explore_60 rfl (lv_at hl 0 rfl) ?_
      refine lv_iload_n hx hb d_Mo_explore_61 rfl (lv_at hl 2 rfl) ?_
      have o11 := hp.1
      have hp := hp.2
      refine cs_ret_p hC hw (cs_runV (As := [.int y2]) (rest := []) hC hw g0.2 (ci := 5) rfl rfl (cs_sg_is g0) (c_Mo_nextThread l D cA ad N10 j g0 y2 o11 _) rfl rfl cw_Mo_190 ⟨Nat.le_of_ble_eq_true rfl, Nat.le_of_ble_eq_true rfl⟩ hl.1 rfl rfl (Nat.le_of_ble_eq_true rfl) d_Mo_explore_62 ⟨Nat.zero_le _, Nat.zero_le _⟩) (fun r12 H locs er12 hw => ?_)
      have hp := cs_bdP er12 hp
      have hf := cs_bdE er12 hf
      refine lv_istore (lv' := [(4, .int r12), (0, .ref (ad j)), (1, .int y1), (2, .int y2), (3, .int y3)]) hx hb d_Mo_explore_65 hl (by decide) rfl (fun ls hl => ?_)
      refine lv_iload hx hb d_Mo_explore_67 (lv_at hl 0 rfl) ?_
      refine lv_iconst (v := 3) hx hb d_Mo_explore_69 (by decide) ?_
      refine lv_icmp_ge (tgt := 89) hx hb d_Mo_explore_70 (by decide) (fun c13 => ?_) (fun c13 => ?_)
      · have hp := hp.1 c13
        have hf := hf.trans (if_pos c13)
        refine lv_iload_n hx hb d_Mo_explore_89 rfl (lv_at hl 3 rfl) ?_
        refine lv_if_ne (tgt := 97) hx hb d_Mo_explore_90 (by decide) (fun c14 => ?_) (fun c14 => ?_)
        · have hp := hp.2 c14
          have hf := hf.trans (if_neg c14)
          refine lv_aload_n hx hb d_Mo_explore_97 rfl (lv_at hl 1 rfl) ?_
          refine gf_Mo_orders hC hw g0 wd_578 d_Mo_explore_98 ?_
          refine lv_sipush (v := 3000) hx hb d_Mo_explore_101 (by decide) ?_
          refine lv_icmp_le (tgt := 130) hx hb d_Mo_explore_104 (by decide) (fun c15 => ?_) (fun c15 => ?_)
          · have hp := hp.1 c15
            have hf := hf.trans (if_pos c15)
            refine lv_iload_n hx hb d_Mo_explore_130 rfl (lv_at hl 2 rfl) ?_
            refine lv_if_le (tgt := 138) hx hb d_Mo_explore_131 (by decide) (fun c16 => ?_) (fun c16 => ?_)
            · have hp := hp.1 c16
              have hf := hf.trans (if_pos c16)
              refine lv_iconst (v := 0) hx hb d_Mo_explore_138 (by decide) ?_
              refine lv_istore_n (lv' := [(3, .int 0), (4, .int r12), (0, .ref (ad j)), (1, .int y1), (2, .int y2)]) hx hb d_Mo_explore_139 rfl hl (by decide) rfl (fun ls hl => ?_)
              obtain ⟨z17, ez17⟩ : ∃ y : Int32, y = y1 + (-1) := ⟨_, rfl⟩
              have hp := cs_bdP ez17 hp
              have hf := cs_bdE ez17 hf
              refine lv_iinc (v := z17) (lv' := [(1, .int z17), (3, .int 0), (4, .int r12), (0, .ref (ad j)), (2, .int y2)]) hx hb d_Mo_explore_140 hl (k := 3) rfl (by rw [ez17]; rfl) (by decide) rfl (fun ls hl => ?_)
              refine lv_iload_n hx hb d_Mo_explore_143 rfl (lv_at hl 1 rfl) ?_
              refine lv_if_eq (tgt := 158) hx hb d_Mo_explore_144 (by decide) (fun _ => ?_) (fun c18 => absurd c18 (by decide))
              refine lv_iconst (v := 0) hx hb d_Mo_explore_158 (by decide) ?_
              refine lv_istore_n (lv' := [(2, .int 0), (1, .int z17), (3, .int 0), (4, .int r12), (0, .ref (ad j))]) hx hb d_Mo_explore_159 rfl hl (by decide) rfl (fun ls hl => ?_)
              refine lv_goto (tgt := 26) hx hb d_Mo_explore_160 (by decide) ?_
              exact ih N10 j z17 0 0 _ _ ls hw (lv_sub hl [4, 1, 0, 2] rfl) g0 hp hf
            · have hp := hp.2 c16
              have hf := hf.trans (if_neg c16)
              refine lv_iconst (v := 1) hx hb d_Mo_explore_134 (by decide) ?_
              refine lv_goto (tgt := 139) hx hb d_Mo_explore_135 (by decide) ?_
              refine lv_istore_n (lv' := [(3, .int 1), (4, .int r12), (0, .ref (ad j)), (1, .int y1), (2, .int y2)]) hx hb d_Mo_explore_139 rfl hl (by decide) rfl (fun ls hl => ?_)
              obtain ⟨z19, ez19⟩ : ∃ y : Int32, y = y1 + (-1) := ⟨_, rfl⟩
              have hp := cs_bdP ez19 hp
              have hf := cs_bdE ez19 hf
              refine lv_iinc (v := z19) (lv' := [(1, .int z19), (3, .int 1), (4, .int r12), (0, .ref (ad j)), (2, .int y2)]) hx hb d_Mo_explore_140 hl (k := 3) rfl (by rw [ez19]; rfl) (by decide) rfl (fun ls hl => ?_)
              refine lv_iload_n hx hb d_Mo_explore_143 rfl (lv_at hl 1 rfl) ?_
              refine lv_if_eq (tgt := 158) hx hb d_Mo_explore_144 (by decide) (fun c20 => absurd c20 (by decide)) (fun _ => ?_)
              refine lv_aload_n hx hb d_Mo_explore_147 rfl (lv_at hl 3 rfl) ?_
              refine gf_Mo_tried hC hw g0 wd_566 d_Mo_explore_148 ?_
              refine lv_iload_n hx hb d_Mo_explore_151 rfl (lv_at hl 0 rfl) ?_
              have o21 := hp.1
              have hp := hp.2
              refine cs_iald hC hw is_77 o21 d_Mo_explore_152 ?_
              refine lv_iconst (v := 1) hx hb d_Mo_explore_153 (by decide) ?_
              refine lv_iadd hx hb d_Mo_explore_154 ?_
              refine lv_goto (tgt := 159) hx hb d_Mo_explore_155 (by decide) ?_
              refine lv_topi (fun z22 ez22 => ?_)
              have hp := cs_bdP ez22 hp
              have hf := cs_bdE ez22 hf
              refine lv_istore_n (lv' := [(2, .int z22), (1, .int z19), (3, .int 1), (4, .int r12), (0, .ref (ad j))]) hx hb d_Mo_explore_159 rfl hl (by decide) rfl (fun ls hl => ?_)
              refine lv_goto (tgt := 26) hx hb d_Mo_explore_160 (by decide) ?_
              exact ih N10 j z19 z22 1 _ _ ls hw (lv_sub hl [4, 1, 0, 2] rfl) g0 hp hf
          · have hp := hp.2 c15
            have hf := hf.trans (if_neg c15)
            refine lv_aload_n hx hb d_Mo_explore_107 rfl (lv_at hl 1 rfl) ?_
            refine lv_aload_n hx hb d_Mo_explore_108 rfl (lv_at hl 1 rfl) ?_
            refine lv_aload_n hx hb d_Mo_explore_109 rfl (lv_at hl 1 rfl) ?_
            refine lv_iconst (v := 0) hx hb d_Mo_explore_110 (by decide) ?_
            refine lv_dup_x1 hx hb d_Mo_explore_111 rfl rfl ?_
            refine pf_Mo_stuckOrders hC hw g0 wd_579 d_Mo_explore_112 (fun N23 H locs eN23 hw => ?_)
            have hf := cs_bdE eN23 hf
            refine lv_dup_x1 hx hb d_Mo_explore_115 rfl rfl ?_
            refine pf_Mo_orders hC hw g0 wd_578 d_Mo_explore_116 (fun N24 H locs eN24 hw => ?_)
            have hf := cs_bdE eN24 hf
            refine pf_Mo_found hC hw g0 wd_577 d_Mo_explore_119 (fun N25 H locs eN25 hw => ?_)
            have hf := cs_bdE eN25 hf
            refine lv_aload_n hx hb d_Mo_explore_122 rfl (lv_at hl 1 rfl) ?_
            refine lv_iconst (v := 0) hx hb d_Mo_explore_123 (by decide) ?_
            refine pf_Mo_explored hC hw g0 wd_580 (Or.inl rfl) d_Mo_explore_124 (fun N26 H locs eN26 hw => ?_)
            have hf := cs_bdE eN26 hf
            refine lv_bipush (v := (-2)) hx hb d_Mo_explore_127 (by decide) ?_
            exact cs_iret hC hw hr hlk hf d_Mo_explore_129
        · have hp := hp.1 c14
          have hf := hf.trans (if_pos c14)
          refine lv_aload_n hx hb d_Mo_explore_93 rfl (lv_at hl 1 rfl) ?_
          have o28 := hp.1
          have hp := hp.2
          refine cs_ret_v hC hw (cs_runV (As := []) (rest := []) hC hw g0.2 (ci := 5) rfl rfl (cs_sg_is g0) (c_Mo_noteOrder l D cA ad N10 j g0 o28 _) rfl rfl cw_Mo_193 ⟨Nat.le_of_ble_eq_true rfl, Nat.le_of_ble_eq_true rfl⟩ hl.1 rfl rfl (Nat.le_of_ble_eq_true rfl) d_Mo_explore_94 ⟨Nat.zero_le _, Nat.zero_le _⟩) (fun u29 H locs eu29 hw => ?_)
          have hp := cs_bdP eu29 hp
          have hf := cs_bdE eu29 hf
          refine lv_aload_n hx hb d_Mo_explore_97 rfl (lv_at hl 1 rfl) ?_
          refine gf_Mo_orders hC hw g0 wd_578 d_Mo_explore_98 ?_
          refine lv_sipush (v := 3000) hx hb d_Mo_explore_101 (by decide) ?_
          refine lv_icmp_le (tgt := 130) hx hb d_Mo_explore_104 (by decide) (fun c30 => ?_) (fun c30 => ?_)
          · have hp := hp.1 c30
            have hf := hf.trans (if_pos c30)
            refine lv_iload_n hx hb d_Mo_explore_130 rfl (lv_at hl 2 rfl) ?_
            refine lv_if_le (tgt := 138) hx hb d_Mo_explore_131 (by decide) (fun c31 => ?_) (fun c31 => ?_)
            · have hp := hp.1 c31
              have hf := hf.trans (if_pos c31)
              refine lv_iconst (v := 0) hx hb d_Mo_explore_138 (by decide) ?_
              refine lv_istore_n (lv' := [(3, .int 0), (4, .int r12), (0, .ref (ad j)), (1, .int y1), (2, .int y2)]) hx hb d_Mo_explore_139 rfl hl (by decide) rfl (fun ls hl => ?_)
              obtain ⟨z32, ez32⟩ : ∃ y : Int32, y = y1 + (-1) := ⟨_, rfl⟩
              have hp := cs_bdP ez32 hp
              have hf := cs_bdE ez32 hf
              refine lv_iinc (v := z32) (lv' := [(1, .int z32), (3, .int 0), (4, .int r12), (0, .ref (ad j)), (2, .int y2)]) hx hb d_Mo_explore_140 hl (k := 3) rfl (by rw [ez32]; rfl) (by decide) rfl (fun ls hl => ?_)
              refine lv_iload_n hx hb d_Mo_explore_143 rfl (lv_at hl 1 rfl) ?_
              refine lv_if_eq (tgt := 158) hx hb d_Mo_explore_144 (by decide) (fun _ => ?_) (fun c33 => absurd c33 (by decide))
              refine lv_iconst (v := 0) hx hb d_Mo_explore_158 (by decide) ?_
              refine lv_istore_n (lv' := [(2, .int 0), (1, .int z32), (3, .int 0), (4, .int r12), (0, .ref (ad j))]) hx hb d_Mo_explore_159 rfl hl (by decide) rfl (fun ls hl => ?_)
              refine lv_goto (tgt := 26) hx hb d_Mo_explore_160 (by decide) ?_
              exact ih u29 j z32 0 0 _ _ ls hw (lv_sub hl [4, 1, 0, 2] rfl) g0 hp hf
            · have hp := hp.2 c31
              have hf := hf.trans (if_neg c31)
              refine lv_iconst (v := 1) hx hb d_Mo_explore_134 (by decide) ?_
              refine lv_goto (tgt := 139) hx hb d_Mo_explore_135 (by decide) ?_
              refine lv_istore_n (lv' := [(3, .int 1), (4, .int r12), (0, .ref (ad j)), (1, .int y1), (2, .int y2)]) hx hb d_Mo_explore_139 rfl hl (by decide) rfl (fun ls hl => ?_)
              obtain ⟨z34, ez34⟩ : ∃ y : Int32, y = y1 + (-1) := ⟨_, rfl⟩
              have hp := cs_bdP ez34 hp
              have hf := cs_bdE ez34 hf
              refine lv_iinc (v := z34) (lv' := [(1, .int z34), (3, .int 1), (4, .int r12), (0, .ref (ad j)), (2, .int y2)]) hx hb d_Mo_explore_140 hl (k := 3) rfl (by rw [ez34]; rfl) (by decide) rfl (fun ls hl => ?_)
              refine lv_iload_n hx hb d_Mo_explore_143 rfl (lv_at hl 1 rfl) ?_
              refine lv_if_eq (tgt := 158) hx hb d_Mo_explore_144 (by decide) (fun c35 => absurd c35 (by decide)) (fun _ => ?_)
              refine lv_aload_n hx hb d_Mo_explore_147 rfl (lv_at hl 3 rfl) ?_
              refine gf_Mo_tried hC hw g0 wd_566 d_Mo_explore_148 ?_
              refine lv_iload_n hx hb d_Mo_explore_151 rfl (lv_at hl 0 rfl) ?_
              have o36 := hp.1
              have hp := hp.2
              refine cs_iald hC hw is_77 o36 d_Mo_explore_152 ?_
              refine lv_iconst (v := 1) hx hb d_Mo_explore_153 (by decide) ?_
              refine lv_iadd hx hb d_Mo_explore_154 ?_
              refine lv_goto (tgt := 159) hx hb d_Mo_explore_155 (by decide) ?_
              refine lv_topi (fun z37 ez37 => ?_)
              have hp := cs_bdP ez37 hp
              have hf := cs_bdE ez37 hf
              refine lv_istore_n (lv' := [(2, .int z37), (1, .int z34), (3, .int 1), (4, .int r12), (0, .ref (ad j))]) hx hb d_Mo_explore_159 rfl hl (by decide) rfl (fun ls hl => ?_)
              refine lv_goto (tgt := 26) hx hb d_Mo_explore_160 (by decide) ?_
              exact ih u29 j z34 z37 1 _ _ ls hw (lv_sub hl [4, 1, 0, 2] rfl) g0 hp hf
          · have hp := hp.2 c30
            have hf := hf.trans (if_neg c30)
            refine lv_aload_n hx hb d_Mo_explore_107 rfl (lv_at hl 1 rfl) ?_
            refine lv_aload_n hx hb d_Mo_explore_108 rfl (lv_at hl 1 rfl) ?_
            refine lv_aload_n hx hb d_Mo_explore_109 rfl (lv_at hl 1 rfl) ?_
            refine lv_iconst (v := 0) hx hb d_Mo_explore_110 (by decide) ?_
            refine lv_dup_x1 hx hb d_Mo_explore_111 rfl rfl ?_
            refine pf_Mo_stuckOrders hC hw g0 wd_579 d_Mo_explore_112 (fun N38 H locs eN38 hw => ?_)
            have hf := cs_bdE eN38 hf
            refine lv_dup_x1 hx hb d_Mo_explore_115 rfl rfl ?_
            refine pf_Mo_orders hC hw g0 wd_578 d_Mo_explore_116 (fun N39 H locs eN39 hw => ?_)
            have hf := cs_bdE eN39 hf
            refine pf_Mo_found hC hw g0 wd_577 d_Mo_explore_119 (fun N40 H locs eN40 hw => ?_)
            have hf := cs_bdE eN40 hf
            refine lv_aload_n hx hb d_Mo_explore_122 rfl (lv_at hl 1 rfl) ?_
            refine lv_iconst (v := 0) hx hb d_Mo_explore_123 (by decide) ?_
            refine pf_Mo_explored hC hw g0 wd_580 (Or.inl rfl) d_Mo_explore_124 (fun N41 H locs eN41 hw => ?_)
            have hf := cs_bdE eN41 hf
            refine lv_bipush (v := (-2)) hx hb d_Mo_explore_127 (by decide) ?_
            exact cs_iret hC hw hr hlk hf d_Mo_explore_129
      · have hp := hp.2 c13
        have hf := hf.trans (if_neg c13)
        refine lv_aload_n hx hb d_Mo_explore_73 rfl (lv_at hl 1 rfl) ?_
        refine gf_Mo_tried hC hw g0 wd_566 d_Mo_explore_74 ?_
        refine lv_iload_n hx hb d_Mo_explore_77 rfl (lv_at hl 2 rfl) ?_
        refine lv_iload hx hb d_Mo_explore_78 (lv_at hl 0 rfl) ?_
        have o43 := hp.1
        have hp := hp.2
        refine cs_iast hC hw is_77 o43 d_Mo_explore_80 (fun N44 H locs eN44 hw => ?_)
        have hp := cs_bdP eN44 hp
        have hf := cs_bdE eN44 hf
        obtain ⟨z45, ez45⟩ : ∃ y : Int32, y = y1 + 1 := ⟨_, rfl⟩
        have hp := cs_bdP ez45 hp
        have hf := cs_bdE ez45 hf
        refine lv_iinc (v := z45) (lv' := [(1, .int z45), (4, .int r12), (0, .ref (ad j)), (2, .int y2), (3, .int y3)]) hx hb d_Mo_explore_81 hl (k := 2) rfl (by rw [ez45]; rfl) (by decide) rfl (fun ls hl => ?_)
        refine lv_iconst (v := 0) hx hb d_Mo_explore_84 (by decide) ?_
        refine lv_istore_n (lv' := [(2, .int 0), (1, .int z45), (4, .int r12), (0, .ref (ad j)), (3, .int y3)]) hx hb d_Mo_explore_85 rfl hl (by decide) rfl (fun ls hl => ?_)
        refine lv_goto (tgt := 26) hx hb d_Mo_explore_86 (by decide) ?_
        exact ih N44 j z45 0 y3 _ _ ls hw (lv_sub hl [3, 1, 0, 4] rfl) g0 hp hf
set_option maxHeartbeats 4000000 in
set_option maxRecDepth 100000 in
theorem c_Mo_explore (l : Launch) (D : va_G) (cA : Nat → ClassId) (ad : Nat → Nat) (M : cs_Mem) (j : Nat) (hj : cs_is 5 j) (hp : pre_Mo_explore M j) : cs_Ci l ⟨"ClassStarterModel", "explore", "()I"⟩ prog_8_method_40_code 5 (some .int) ({ frames := 8, cells := 0, slots := 0, locals := 183 }) D cA ad M [.ref (ad j)] (f_Mo_explore M j) := by
  refine cs_entry (by decide) (Nat.le_of_ble_eq_true rfl) (fun p e s m below meth c A ls hC hr hlk _ hw hl => ?_)
  have hx := hC.1
  have hb := hC.2.1
  have hl : lv_has ls 5 [(0, .ref (ad j))] := hl
  generalize hF : f_Mo_explore M j = F
  have hf := hF.symm
  unfold f_Mo_explore at hf
  unfold pre_Mo_explore at hp
  refine lv_aload_n hx hb d_Mo_explore_0 rfl (lv_at hl 0 rfl) ?_
  refine lv_aload_n hx hb d_Mo_explore_1 rfl (lv_at hl 0 rfl) ?_
  refine lv_aload_n hx hb d_Mo_explore_2 rfl (lv_at hl 0 rfl) ?_
  refine lv_iconst (v := 0) hx hb d_Mo_explore_3 (by decide) ?_
  refine lv_dup_x1 hx hb d_Mo_explore_4 rfl rfl ?_
  refine pf_Mo_stuckOrders hC hw hj wd_579 d_Mo_explore_5 (fun N1 H locs eN1 hw => ?_)
  have hp := cs_bdP eN1 hp
  have hf := cs_bdE eN1 hf
  refine lv_dup_x1 hx hb d_Mo_explore_8 rfl rfl ?_
  refine pf_Mo_orders hC hw hj wd_578 d_Mo_explore_9 (fun N2 H locs eN2 hw => ?_)
  have hp := cs_bdP eN2 hp
  have hf := cs_bdE eN2 hf
  refine pf_Mo_found hC hw hj wd_577 d_Mo_explore_12 (fun N3 H locs eN3 hw => ?_)
  have hp := cs_bdP eN3 hp
  have hf := cs_bdE eN3 hf
  refine lv_aload_n hx hb d_Mo_explore_15 rfl (lv_at hl 0 rfl) ?_
  refine lv_iconst (v := 1) hx hb d_Mo_explore_16 (by decide) ?_
  refine pf_Mo_explored hC hw hj wd_580 (Or.inr rfl) d_Mo_explore_17 (fun N4 H locs eN4 hw => ?_)
  have hp := cs_bdP eN4 hp
  have hf := cs_bdE eN4 hf
  refine lv_iconst (v := 0) hx hb d_Mo_explore_20 (by decide) ?_
  refine lv_istore_n (lv' := [(1, .int 0), (0, .ref (ad j))]) hx hb d_Mo_explore_21 rfl hl (by decide) rfl (fun ls hl => ?_)
  refine lv_iconst (v := 0) hx hb d_Mo_explore_22 (by decide) ?_
  refine lv_istore_n (lv' := [(2, .int 0), (1, .int 0), (0, .ref (ad j))]) hx hb d_Mo_explore_23 rfl hl (by decide) rfl (fun ls hl => ?_)
  refine lv_iconst (v := 1) hx hb d_Mo_explore_24 (by decide) ?_
  refine lv_istore_n (lv' := [(3, .int 1), (2, .int 0), (1, .int 0), (0, .ref (ad j))]) hx hb d_Mo_explore_25 rfl hl (by decide) rfl (fun ls hl => ?_)
  exact w_Mo_explore_L26 hC hr hlk 2000000 N4 j 0 0 1 _ _ ls hw (lv_sub hl [3, 2, 1, 0] rfl) hj hp hf
theorem d_Mo_outcome_0 : decode prog_8_method_41_code 0 = .ok (.aload_n 0, 1) := by decide +kernel
theorem d_Mo_outcome_1 : decode prog_8_method_41_code 1 = .ok (.getfield 91, 3) := by decide +kernel
theorem d_Mo_outcome_4 : decode prog_8_method_41_code 4 = .ok (.ifCond .eq 14, 3) := by decide +kernel
theorem d_Mo_outcome_7 : decode prog_8_method_41_code 7 = .ok (.iload_n 1, 1) := by decide +kernel
theorem d_Mo_outcome_8 : decode prog_8_method_41_code 8 = .ok (.aload_n 0, 1) := by decide +kernel
theorem d_Mo_outcome_9 : decode prog_8_method_41_code 9 = .ok (.getfield 187, 3) := by decide +kernel
theorem d_Mo_outcome_12 : decode prog_8_method_41_code 12 = .ok (.invokestatic 94, 3) := by decide +kernel
theorem d_Mo_outcome_15 : decode prog_8_method_41_code 15 = .ok (.ifCond .eq 9, 3) := by decide +kernel
theorem d_Mo_outcome_18 : decode prog_8_method_41_code 18 = .ok (.ldc2_w 176, 3) := by decide +kernel
theorem d_Mo_outcome_21 : decode prog_8_method_41_code 21 = .ok (.goto 10, 3) := by decide +kernel
theorem d_Mo_outcome_24 : decode prog_8_method_41_code 24 = .ok (.aload_n 0, 1) := by decide +kernel
theorem d_Mo_outcome_25 : decode prog_8_method_41_code 25 = .ok (.getfield 80, 3) := by decide +kernel
theorem d_Mo_outcome_28 : decode prog_8_method_41_code 28 = .ok (.iload_n 1, 1) := by decide +kernel
theorem d_Mo_outcome_29 : decode prog_8_method_41_code 29 = .ok (.iaload, 1) := by decide +kernel
theorem d_Mo_outcome_30 : decode prog_8_method_41_code 30 = .ok (.i2l, 1) := by decide +kernel
theorem d_Mo_outcome_31 : decode prog_8_method_41_code 31 = .ok (.lreturn, 1) := by decide +kernel
def f_Mo_outcome (M : cs_Mem) (j : Nat) (x1 : Int32) : Int64 :=
  if (M j 31) = 0 then
    1000000000000
  else
    cs_bd (f_Mo_out M x1 (M j 28)) fun (r2 : Int32) =>
    if r2 = 0 then
      (M 86 x1.toNatClampNeg).toInt64
    else
      1000000000000
def pre_Mo_outcome (M : cs_Mem) (j : Nat) (x1 : Int32) : Prop :=
  ((M j 31) = 0 →
    True
  ) ∧ (¬ ((M j 31) = 0) →
    cs_bd (f_Mo_out M x1 (M j 28)) fun (r2 : Int32) =>
    (r2 = 0 →
      (vp_in x1 (cs_ln M 86)) ∧
      True
    ) ∧ (¬ (r2 = 0) →
      True
    )
  )
set_option maxHeartbeats 4000000 in
set_option maxRecDepth 100000 in
theorem c_Mo_outcome (l : Launch) (D : va_G) (cA : Nat → ClassId) (ad : Nat → Nat) (M : cs_Mem) (j : Nat) (hj : cs_is 5 j) (x1 : Int32) (hp : pre_Mo_outcome M j x1) : cs_Cl l ⟨"ClassStarterModel", "outcome", "(I)J"⟩ prog_8_method_41_code 2 (some .long) ({ frames := 1, cells := 0, slots := 0, locals := 21 }) D cA ad M [.ref (ad j), .int x1] ((f_Mo_outcome M j x1, M)) := by
  refine cs_entry (by decide) (Nat.le_of_ble_eq_true rfl) (fun p e s m below meth c A ls hC hr hlk _ hw hl => ?_)
  have hx := hC.1
  have hb := hC.2.1
  have hl : lv_has ls 2 [(0, .ref (ad j)), (1, .int x1)] := hl
  generalize hF : f_Mo_outcome M j x1 = F
  have hf := hF.symm
  unfold f_Mo_outcome at hf
  unfold pre_Mo_outcome at hp
  refine lv_aload_n hx hb d_Mo_outcome_0 rfl (lv_at hl 0 rfl) ?_
  refine gf_Mo_explored hC hw hj wd_580 d_Mo_outcome_1 ?_
  refine lv_if_eq (tgt := 18) hx hb d_Mo_outcome_4 (by decide) (fun c1 => ?_) (fun c1 => ?_)
  · have hp := hp.1 c1
    have hf := hf.trans (if_pos c1)
    refine lv_ldc2 (v := 1000000000000) hx hb hC.2.2.2.1 (hC.2.2.2.2.1 _ wd_762) d_Mo_outcome_18 ?_
    refine lv_goto (tgt := 31) hx hb d_Mo_outcome_21 (by decide) ?_
    exact cs_lret hC hw hr hlk (congrArg (fun z => (z, M)) hf) d_Mo_outcome_31
  · have hp := hp.2 c1
    have hf := hf.trans (if_neg c1)
    refine lv_iload_n hx hb d_Mo_outcome_7 rfl (lv_at hl 1 rfl) ?_
    refine lv_aload_n hx hb d_Mo_outcome_8 rfl (lv_at hl 0 rfl) ?_
    refine gf_Mo_found hC hw hj wd_577 d_Mo_outcome_9 ?_
    refine cs_ret_p hC hw (cs_runS (As := [.int x1, .int (M j 28)]) (rest := []) hC hw (c_Mo_out l D cA ad M x1 (M j 28) _) rfl rfl cw_Mo_94 ⟨Nat.le_of_ble_eq_true rfl, Nat.le_of_ble_eq_true rfl⟩ hl.1 rfl rfl (Nat.le_of_ble_eq_true rfl) d_Mo_outcome_12 ⟨Nat.zero_le _, Nat.zero_le _⟩) (fun r2 H locs er2 hw => ?_)
    have hp := cs_bdP er2 hp
    have hf := cs_bdE er2 hf
    refine lv_if_eq (tgt := 24) hx hb d_Mo_outcome_15 (by decide) (fun c3 => ?_) (fun c3 => ?_)
    · have hp := hp.1 c3
      have hf := hf.trans (if_pos c3)
      refine lv_aload_n hx hb d_Mo_outcome_24 rfl (lv_at hl 0 rfl) ?_
      refine gf_Mo_outcomes hC hw hj wd_576 d_Mo_outcome_25 ?_
      refine lv_iload_n hx hb d_Mo_outcome_28 rfl (lv_at hl 1 rfl) ?_
      have o4 := hp.1
      have hp := hp.2
      refine cs_iald hC hw is_86 o4 d_Mo_outcome_29 ?_
      refine lv_i2l hx hb d_Mo_outcome_30 rfl ?_
      exact cs_lret hC hw hr hlk (congrArg (fun z => (z, M)) hf) d_Mo_outcome_31
    · have hp := hp.2 c3
      have hf := hf.trans (if_neg c3)
      refine lv_ldc2 (v := 1000000000000) hx hb hC.2.2.2.1 (hC.2.2.2.2.1 _ wd_762) d_Mo_outcome_18 ?_
      refine lv_goto (tgt := 31) hx hb d_Mo_outcome_21 (by decide) ?_
      exact cs_lret hC hw hr hlk (congrArg (fun z => (z, M)) hf) d_Mo_outcome_31
theorem d_Mo_count_0 : decode prog_8_method_42_code 0 = .ok (.iload_n 1, 1) := by decide +kernel
theorem d_Mo_count_1 : decode prog_8_method_42_code 1 = .ok (.bipush 6, 2) := by decide +kernel
theorem d_Mo_count_3 : decode prog_8_method_42_code 3 = .ok (.invokestatic 94, 3) := by decide +kernel
theorem d_Mo_count_6 : decode prog_8_method_42_code 6 = .ok (.ifCond .eq 5, 3) := by decide +kernel
theorem d_Mo_count_9 : decode prog_8_method_42_code 9 = .ok (.iconst (-1), 1) := by decide +kernel
theorem d_Mo_count_10 : decode prog_8_method_42_code 10 = .ok (.ireturn, 1) := by decide +kernel
theorem d_Mo_count_11 : decode prog_8_method_42_code 11 = .ok (.iload_n 1, 1) := by decide +kernel
theorem d_Mo_count_12 : decode prog_8_method_42_code 12 = .ok (.iconst 2, 1) := by decide +kernel
theorem d_Mo_count_13 : decode prog_8_method_42_code 13 = .ok (.if_icmp .ne 7, 3) := by decide +kernel
theorem d_Mo_count_16 : decode prog_8_method_42_code 16 = .ok (.aload_n 0, 1) := by decide +kernel
theorem d_Mo_count_17 : decode prog_8_method_42_code 17 = .ok (.invokevirtual 173, 3) := by decide +kernel
theorem d_Mo_count_20 : decode prog_8_method_42_code 20 = .ok (.iload_n 1, 1) := by decide +kernel
theorem d_Mo_count_21 : decode prog_8_method_42_code 21 = .ok (.ifCond .ne 10, 3) := by decide +kernel
theorem d_Mo_count_24 : decode prog_8_method_42_code 24 = .ok (.aload_n 0, 1) := by decide +kernel
theorem d_Mo_count_25 : decode prog_8_method_42_code 25 = .ok (.getfield 87, 3) := by decide +kernel
theorem d_Mo_count_28 : decode prog_8_method_42_code 28 = .ok (.goto 77, 3) := by decide +kernel
theorem d_Mo_count_31 : decode prog_8_method_42_code 31 = .ok (.iload_n 1, 1) := by decide +kernel
theorem d_Mo_count_32 : decode prog_8_method_42_code 32 = .ok (.iconst 1, 1) := by decide +kernel
theorem d_Mo_count_33 : decode prog_8_method_42_code 33 = .ok (.if_icmp .ne 10, 3) := by decide +kernel
theorem d_Mo_count_36 : decode prog_8_method_42_code 36 = .ok (.aload_n 0, 1) := by decide +kernel
theorem d_Mo_count_37 : decode prog_8_method_42_code 37 = .ok (.getfield 164, 3) := by decide +kernel
theorem d_Mo_count_40 : decode prog_8_method_42_code 40 = .ok (.goto 65, 3) := by decide +kernel
theorem d_Mo_count_43 : decode prog_8_method_42_code 43 = .ok (.iload_n 1, 1) := by decide +kernel
theorem d_Mo_count_44 : decode prog_8_method_42_code 44 = .ok (.iconst 2, 1) := by decide +kernel
theorem d_Mo_count_45 : decode prog_8_method_42_code 45 = .ok (.if_icmp .ne 10, 3) := by decide +kernel
theorem d_Mo_count_48 : decode prog_8_method_42_code 48 = .ok (.aload_n 0, 1) := by decide +kernel
theorem d_Mo_count_49 : decode prog_8_method_42_code 49 = .ok (.getfield 102, 3) := by decide +kernel
theorem d_Mo_count_52 : decode prog_8_method_42_code 52 = .ok (.goto 53, 3) := by decide +kernel
theorem d_Mo_count_55 : decode prog_8_method_42_code 55 = .ok (.iload_n 1, 1) := by decide +kernel
theorem d_Mo_count_56 : decode prog_8_method_42_code 56 = .ok (.iconst 3, 1) := by decide +kernel
theorem d_Mo_count_57 : decode prog_8_method_42_code 57 = .ok (.if_icmp .ne 24, 3) := by decide +kernel
theorem d_Mo_count_60 : decode prog_8_method_42_code 60 = .ok (.aload_n 0, 1) := by decide +kernel
theorem d_Mo_count_61 : decode prog_8_method_42_code 61 = .ok (.getfield 91, 3) := by decide +kernel
theorem d_Mo_count_64 : decode prog_8_method_42_code 64 = .ok (.ifCond .eq 10, 3) := by decide +kernel
theorem d_Mo_count_67 : decode prog_8_method_42_code 67 = .ok (.aload_n 0, 1) := by decide +kernel
theorem d_Mo_count_68 : decode prog_8_method_42_code 68 = .ok (.getfield 181, 3) := by decide +kernel
theorem d_Mo_count_71 : decode prog_8_method_42_code 71 = .ok (.goto 34, 3) := by decide +kernel
theorem d_Mo_count_74 : decode prog_8_method_42_code 74 = .ok (.aload_n 0, 1) := by decide +kernel
theorem d_Mo_count_75 : decode prog_8_method_42_code 75 = .ok (.getfield 181, 3) := by decide +kernel
theorem d_Mo_count_78 : decode prog_8_method_42_code 78 = .ok (.goto 27, 3) := by decide +kernel
theorem d_Mo_count_81 : decode prog_8_method_42_code 81 = .ok (.iload_n 1, 1) := by decide +kernel
theorem d_Mo_count_82 : decode prog_8_method_42_code 82 = .ok (.iconst 4, 1) := by decide +kernel
theorem d_Mo_count_83 : decode prog_8_method_42_code 83 = .ok (.if_icmp .ne 10, 3) := by decide +kernel
theorem d_Mo_count_86 : decode prog_8_method_42_code 86 = .ok (.aload_n 0, 1) := by decide +kernel
theorem d_Mo_count_87 : decode prog_8_method_42_code 87 = .ok (.getfield 184, 3) := by decide +kernel
theorem d_Mo_count_90 : decode prog_8_method_42_code 90 = .ok (.goto 15, 3) := by decide +kernel
theorem d_Mo_count_93 : decode prog_8_method_42_code 93 = .ok (.aload_n 0, 1) := by decide +kernel
theorem d_Mo_count_94 : decode prog_8_method_42_code 94 = .ok (.getfield 83, 3) := by decide +kernel
theorem d_Mo_count_97 : decode prog_8_method_42_code 97 = .ok (.ifCond .eq 7, 3) := by decide +kernel
theorem d_Mo_count_100 : decode prog_8_method_42_code 100 = .ok (.iconst 1, 1) := by decide +kernel
theorem d_Mo_count_101 : decode prog_8_method_42_code 101 = .ok (.goto 4, 3) := by decide +kernel
theorem d_Mo_count_104 : decode prog_8_method_42_code 104 = .ok (.iconst 0, 1) := by decide +kernel
theorem d_Mo_count_105 : decode prog_8_method_42_code 105 = .ok (.ireturn, 1) := by decide +kernel
def f_Mo_count_J20 (M : cs_Mem) (j : Nat) (y1 : Int32) : Int32 × cs_Mem :=
  if y1 = 0 then
    (M j 0, M)
  else
    if y1 = 1 then
      (M j 15, M)
    else
      if y1 = 2 then
        (M j 26, M)
      else
        if y1 = 3 then
          if (M j 31) = 0 then
            (M j 29, M)
          else
            (M j 29, M)
        else
          if y1 = 4 then
            (M j 30, M)
          else
            if (M j 16) = 0 then
              (0, M)
            else
              (1, M)
def f_Mo_count (M : cs_Mem) (j : Nat) (x1 : Int32) : Int32 × cs_Mem :=
  cs_bd (f_Mo_out M x1 6) fun (r1 : Int32) =>
  if r1 = 0 then
    if x1 = 2 then
      cs_bd (f_Mo_work M j) fun (u5 : cs_Mem) =>
      f_Mo_count_J20 u5 j x1
    else
      f_Mo_count_J20 M j x1
  else
    ((-1), M)
def pre_Mo_count (M : cs_Mem) (j : Nat) (x1 : Int32) : Prop :=
  cs_bd (f_Mo_out M x1 6) fun (r1 : Int32) =>
  (r1 = 0 →
    (x1 = 2 →
      (pre_Mo_work M j) ∧
      True
    ) ∧ (¬ (x1 = 2) →
      True
    )
  ) ∧ (¬ (r1 = 0) →
    True
  )
set_option maxHeartbeats 4000000 in
set_option maxRecDepth 100000 in
theorem w_Mo_count_J20 {p : Program} {l : Launch} {e : Env} {s : State} {m : MethodId} {args : Array Value} {below : List Frame} {meth : Method} {c : Code} {D : va_G} {cA : Nat → ClassId} {A : Nat → Prop} {ad : Nat → Nat} {F : Int32 × cs_Mem} (hC : cs_Ctx p s m args c prog_8_method_42_code 2 "ClassStarterModel" D cA A) (hr : meth.sig.returnType = (some .int)) (hlk : meth.locks = false) : ∀ (M : cs_Mem) (j : Nat) (y1 : Int32) (H : Heap) (locs : List Loc) (ls : Array Slot), cs_Wd D cA ad M A s H locs → lv_has ls 2 [(0, .ref (ad j)), (1, .int y1)] → cs_is 5 j → F = f_Mo_count_J20 M j y1 → W p l e ({ frames := 7, cells := 0, slots := 0, locals := 161 }) s m args below meth c H locs 0 0 (MQ below (cs_Qi D cA ad F A) args s 0 0 A) (F0 m 20 ls []) := by
  have hx := hC.1
  have hb := hC.2.1
  intro M j y1 H locs ls hw hl g0 hf
  unfold f_Mo_count_J20 at hf
  refine lv_iload_n hx hb d_Mo_count_20 rfl (lv_at hl 1 rfl) ?_
  refine lv_if_ne (tgt := 31) hx hb d_Mo_count_21 (by decide) (fun c6 => ?_) (fun c6 => ?_)
  · have hf := hf.trans (if_neg c6)
    refine lv_iload_n hx hb d_Mo_count_31 rfl (lv_at hl 1 rfl) ?_
    refine lv_iconst (v := 1) hx hb d_Mo_count_32 (by decide) ?_
    refine lv_icmp_ne (tgt := 43) hx hb d_Mo_count_33 (by decide) (fun c7 => ?_) (fun c7 => ?_)
    · have hf := hf.trans (if_neg c7)
      refine lv_iload_n hx hb d_Mo_count_43 rfl (lv_at hl 1 rfl) ?_
      refine lv_iconst (v := 2) hx hb d_Mo_count_44 (by decide) ?_
      refine lv_icmp_ne (tgt := 55) hx hb d_Mo_count_45 (by decide) (fun c8 => ?_) (fun c8 => ?_)
      · have hf := hf.trans (if_neg c8)
        refine lv_iload_n hx hb d_Mo_count_55 rfl (lv_at hl 1 rfl) ?_
        refine lv_iconst (v := 3) hx hb d_Mo_count_56 (by decide) ?_
        refine lv_icmp_ne (tgt := 81) hx hb d_Mo_count_57 (by decide) (fun c9 => ?_) (fun c9 => ?_)
        · have hf := hf.trans (if_neg c9)
          refine lv_iload_n hx hb d_Mo_count_81 rfl (lv_at hl 1 rfl) ?_
          refine lv_iconst (v := 4) hx hb d_Mo_count_82 (by decide) ?_
          refine lv_icmp_ne (tgt := 93) hx hb d_Mo_count_83 (by decide) (fun c10 => ?_) (fun c10 => ?_)
          · have hf := hf.trans (if_neg c10)
            refine lv_aload_n hx hb d_Mo_count_93 rfl (lv_at hl 0 rfl) ?_
            refine gf_Mo_begun hC hw g0 wd_565 d_Mo_count_94 ?_
            refine lv_if_eq (tgt := 104) hx hb d_Mo_count_97 (by decide) (fun c11 => ?_) (fun c11 => ?_)
            · have hf := hf.trans (if_pos c11)
              refine lv_iconst (v := 0) hx hb d_Mo_count_104 (by decide) ?_
              exact cs_iret hC hw hr hlk hf d_Mo_count_105
            · have hf := hf.trans (if_neg c11)
              refine lv_iconst (v := 1) hx hb d_Mo_count_100 (by decide) ?_
              refine lv_goto (tgt := 105) hx hb d_Mo_count_101 (by decide) ?_
              exact cs_iret hC hw hr hlk hf d_Mo_count_105
          · have hf := hf.trans (if_pos c10)
            refine lv_aload_n hx hb d_Mo_count_86 rfl (lv_at hl 0 rfl) ?_
            refine gf_Mo_stuckOrders hC hw g0 wd_579 d_Mo_count_87 ?_
            refine lv_goto (tgt := 105) hx hb d_Mo_count_90 (by decide) ?_
            exact cs_iret hC hw hr hlk hf d_Mo_count_105
        · have hf := hf.trans (if_pos c9)
          refine lv_aload_n hx hb d_Mo_count_60 rfl (lv_at hl 0 rfl) ?_
          refine gf_Mo_explored hC hw g0 wd_580 d_Mo_count_61 ?_
          refine lv_if_eq (tgt := 74) hx hb d_Mo_count_64 (by decide) (fun c12 => ?_) (fun c12 => ?_)
          · have hf := hf.trans (if_pos c12)
            refine lv_aload_n hx hb d_Mo_count_74 rfl (lv_at hl 0 rfl) ?_
            refine gf_Mo_orders hC hw g0 wd_578 d_Mo_count_75 ?_
            refine lv_goto (tgt := 105) hx hb d_Mo_count_78 (by decide) ?_
            exact cs_iret hC hw hr hlk hf d_Mo_count_105
          · have hf := hf.trans (if_neg c12)
            refine lv_aload_n hx hb d_Mo_count_67 rfl (lv_at hl 0 rfl) ?_
            refine gf_Mo_orders hC hw g0 wd_578 d_Mo_count_68 ?_
            refine lv_goto (tgt := 105) hx hb d_Mo_count_71 (by decide) ?_
            exact cs_iret hC hw hr hlk hf d_Mo_count_105
      · have hf := hf.trans (if_pos c8)
        refine lv_aload_n hx hb d_Mo_count_48 rfl (lv_at hl 0 rfl) ?_
        refine gf_Mo_logs hC hw g0 wd_575 d_Mo_count_49 ?_
        refine lv_goto (tgt := 105) hx hb d_Mo_count_52 (by decide) ?_
        exact cs_iret hC hw hr hlk hf d_Mo_count_105
    · have hf := hf.trans (if_pos c7)
      refine lv_aload_n hx hb d_Mo_count_36 rfl (lv_at hl 0 rfl) ?_
      refine gf_Mo_steps hC hw g0 wd_564 d_Mo_count_37 ?_
      refine lv_goto (tgt := 105) hx hb d_Mo_count_40 (by decide) ?_
      exact cs_iret hC hw hr hlk hf d_Mo_count_105
  · have hf := hf.trans (if_pos c6)
    refine lv_aload_n hx hb d_Mo_count_24 rfl (lv_at hl 0 rfl) ?_
    refine gf_Mo_classes hC hw g0 wd_549 d_Mo_count_25 ?_
    refine lv_goto (tgt := 105) hx hb d_Mo_count_28 (by decide) ?_
    exact cs_iret hC hw hr hlk hf d_Mo_count_105
set_option maxHeartbeats 4000000 in
set_option maxRecDepth 100000 in
theorem c_Mo_count (l : Launch) (D : va_G) (cA : Nat → ClassId) (ad : Nat → Nat) (M : cs_Mem) (j : Nat) (hj : cs_is 5 j) (x1 : Int32) (hp : pre_Mo_count M j x1) : cs_Ci l ⟨"ClassStarterModel", "count", "(I)I"⟩ prog_8_method_42_code 2 (some .int) ({ frames := 7, cells := 0, slots := 0, locals := 161 }) D cA ad M [.ref (ad j), .int x1] (f_Mo_count M j x1) := by
  refine cs_entry (by decide) (Nat.le_of_ble_eq_true rfl) (fun p e s m below meth c A ls hC hr hlk _ hw hl => ?_)
  have hx := hC.1
  have hb := hC.2.1
  have hl : lv_has ls 2 [(0, .ref (ad j)), (1, .int x1)] := hl
  generalize hF : f_Mo_count M j x1 = F
  have hf := hF.symm
  unfold f_Mo_count at hf
  unfold pre_Mo_count at hp
  refine lv_iload_n hx hb d_Mo_count_0 rfl (lv_at hl 1 rfl) ?_
  refine lv_bipush (v := 6) hx hb d_Mo_count_1 (by decide) ?_
  refine cs_ret_p hC hw (cs_runS (As := [.int x1, .int 6]) (rest := []) hC hw (c_Mo_out l D cA ad M x1 6 _) rfl rfl cw_Mo_94 ⟨Nat.le_of_ble_eq_true rfl, Nat.le_of_ble_eq_true rfl⟩ hl.1 rfl rfl (Nat.le_of_ble_eq_true rfl) d_Mo_count_3 ⟨Nat.zero_le _, Nat.zero_le _⟩) (fun r1 H locs er1 hw => ?_)
  have hp := cs_bdP er1 hp
  have hf := cs_bdE er1 hf
  refine lv_if_eq (tgt := 11) hx hb d_Mo_count_6 (by decide) (fun c2 => ?_) (fun c2 => ?_)
  · have hp := hp.1 c2
    have hf := hf.trans (if_pos c2)
    refine lv_iload_n hx hb d_Mo_count_11 rfl (lv_at hl 1 rfl) ?_
    refine lv_iconst (v := 2) hx hb d_Mo_count_12 (by decide) ?_
    refine lv_icmp_ne (tgt := 20) hx hb d_Mo_count_13 (by decide) (fun c3 => ?_) (fun c3 => ?_)
    · have hp := hp.2 c3
      have hf := hf.trans (if_neg c3)
      exact w_Mo_count_J20 hC hr hlk M j x1 _ _ ls hw (lv_sub hl [0, 1] rfl) hj hf
    · have hp := hp.1 c3
      have hf := hf.trans (if_pos c3)
      refine lv_aload_n hx hb d_Mo_count_16 rfl (lv_at hl 0 rfl) ?_
      have o4 := hp.1
      have hp := hp.2
      refine cs_ret_v hC hw (cs_runV (As := []) (rest := []) hC hw hj.2 (ci := 5) rfl rfl (cs_sg_is hj) (c_Mo_work l D cA ad M j hj o4 _) rfl rfl cw_Mo_173 ⟨Nat.le_of_ble_eq_true rfl, Nat.le_of_ble_eq_true rfl⟩ hl.1 rfl rfl (Nat.le_of_ble_eq_true rfl) d_Mo_count_17 ⟨Nat.zero_le _, Nat.zero_le _⟩) (fun u5 H locs eu5 hw => ?_)
      have hf := cs_bdE eu5 hf
      exact w_Mo_count_J20 hC hr hlk u5 j x1 _ _ ls hw (lv_sub hl [0, 1] rfl) hj hf
  · have hp := hp.2 c2
    have hf := hf.trans (if_neg c2)
    refine lv_iconst (v := (-1)) hx hb d_Mo_count_9 (by decide) ?_
    exact cs_iret hC hw hr hlk hf d_Mo_count_10
