theorem d_Ex_goThrough_0 : decode prog_2_method_9_code 0 = .ok (.aload_n 0, 1) := by decide +kernel
theorem d_Ex_goThrough_1 : decode prog_2_method_9_code 1 = .ok (.invokevirtual 44, 3) := by decide +kernel
theorem d_Ex_goThrough_4 : decode prog_2_method_9_code 4 = .ok (.iconst 0, 1) := by decide +kernel
theorem d_Ex_goThrough_5 : decode prog_2_method_9_code 5 = .ok (.istore_n 1, 1) := by decide +kernel
theorem d_Ex_goThrough_6 : decode prog_2_method_9_code 6 = .ok (.iload_n 1, 1) := by decide +kernel
theorem d_Ex_goThrough_7 : decode prog_2_method_9_code 7 = .ok (.ldc 47, 2) := by decide +kernel
theorem d_Ex_goThrough_9 : decode prog_2_method_9_code 9 = .ok (.if_icmp .ge 93, 3) := by decide +kernel
theorem d_Ex_goThrough_12 : decode prog_2_method_9_code 12 = .ok (.aload_n 0, 1) := by decide +kernel
theorem d_Ex_goThrough_13 : decode prog_2_method_9_code 13 = .ok (.getfield 48, 3) := by decide +kernel
theorem d_Ex_goThrough_16 : decode prog_2_method_9_code 16 = .ok (.ifCond .lt 86, 3) := by decide +kernel
theorem d_Ex_goThrough_19 : decode prog_2_method_9_code 19 = .ok (.aload_n 0, 1) := by decide +kernel
theorem d_Ex_goThrough_20 : decode prog_2_method_9_code 20 = .ok (.getfield 31, 3) := by decide +kernel
theorem d_Ex_goThrough_23 : decode prog_2_method_9_code 23 = .ok (.sipush 3000, 3) := by decide +kernel
theorem d_Ex_goThrough_26 : decode prog_2_method_9_code 26 = .ok (.if_icmp .gt 76, 3) := by decide +kernel
theorem d_Ex_goThrough_29 : decode prog_2_method_9_code 29 = .ok (.aload_n 0, 1) := by decide +kernel
theorem d_Ex_goThrough_30 : decode prog_2_method_9_code 30 = .ok (.getfield 23, 3) := by decide +kernel
theorem d_Ex_goThrough_33 : decode prog_2_method_9_code 33 = .ok (.aload_n 0, 1) := by decide +kernel
theorem d_Ex_goThrough_34 : decode prog_2_method_9_code 34 = .ok (.getfield 17, 3) := by decide +kernel
theorem d_Ex_goThrough_37 : decode prog_2_method_9_code 37 = .ok (.aload_n 0, 1) := by decide +kernel
theorem d_Ex_goThrough_38 : decode prog_2_method_9_code 38 = .ok (.getfield 48, 3) := by decide +kernel
theorem d_Ex_goThrough_41 : decode prog_2_method_9_code 41 = .ok (.iaload, 1) := by decide +kernel
theorem d_Ex_goThrough_42 : decode prog_2_method_9_code 42 = .ok (.invokevirtual 51, 3) := by decide +kernel
theorem d_Ex_goThrough_45 : decode prog_2_method_9_code 45 = .ok (.istore_n 2, 1) := by decide +kernel
theorem d_Ex_goThrough_46 : decode prog_2_method_9_code 46 = .ok (.iload_n 2, 1) := by decide +kernel
theorem d_Ex_goThrough_47 : decode prog_2_method_9_code 47 = .ok (.iconst 3, 1) := by decide +kernel
theorem d_Ex_goThrough_48 : decode prog_2_method_9_code 48 = .ok (.if_icmp .ge 28, 3) := by decide +kernel
theorem d_Ex_goThrough_51 : decode prog_2_method_9_code 51 = .ok (.aload_n 0, 1) := by decide +kernel
theorem d_Ex_goThrough_52 : decode prog_2_method_9_code 52 = .ok (.getfield 48, 3) := by decide +kernel
theorem d_Ex_goThrough_55 : decode prog_2_method_9_code 55 = .ok (.bipush 89, 2) := by decide +kernel
theorem d_Ex_goThrough_57 : decode prog_2_method_9_code 57 = .ok (.if_icmp .ge 19, 3) := by decide +kernel
theorem d_Ex_goThrough_60 : decode prog_2_method_9_code 60 = .ok (.aload_n 0, 1) := by decide +kernel
theorem d_Ex_goThrough_61 : decode prog_2_method_9_code 61 = .ok (.iload_n 2, 1) := by decide +kernel
theorem d_Ex_goThrough_62 : decode prog_2_method_9_code 62 = .ok (.invokevirtual 55, 3) := by decide +kernel
theorem d_Ex_goThrough_65 : decode prog_2_method_9_code 65 = .ok (.aload_n 0, 1) := by decide +kernel
theorem d_Ex_goThrough_66 : decode prog_2_method_9_code 66 = .ok (.getfield 23, 3) := by decide +kernel
theorem d_Ex_goThrough_69 : decode prog_2_method_9_code 69 = .ok (.iload_n 2, 1) := by decide +kernel
theorem d_Ex_goThrough_70 : decode prog_2_method_9_code 70 = .ok (.invokevirtual 59, 3) := by decide +kernel
theorem d_Ex_goThrough_73 : decode prog_2_method_9_code 73 = .ok (.goto 23, 3) := by decide +kernel
theorem d_Ex_goThrough_76 : decode prog_2_method_9_code 76 = .ok (.aload_n 0, 1) := by decide +kernel
theorem d_Ex_goThrough_77 : decode prog_2_method_9_code 77 = .ok (.getfield 17, 3) := by decide +kernel
theorem d_Ex_goThrough_80 : decode prog_2_method_9_code 80 = .ok (.aload_n 0, 1) := by decide +kernel
theorem d_Ex_goThrough_81 : decode prog_2_method_9_code 81 = .ok (.getfield 48, 3) := by decide +kernel
theorem d_Ex_goThrough_84 : decode prog_2_method_9_code 84 = .ok (.iaload, 1) := by decide +kernel
theorem d_Ex_goThrough_85 : decode prog_2_method_9_code 85 = .ok (.ifCond .ne 7, 3) := by decide +kernel
theorem d_Ex_goThrough_88 : decode prog_2_method_9_code 88 = .ok (.aload_n 0, 1) := by decide +kernel
theorem d_Ex_goThrough_89 : decode prog_2_method_9_code 89 = .ok (.invokevirtual 62, 3) := by decide +kernel
theorem d_Ex_goThrough_92 : decode prog_2_method_9_code 92 = .ok (.aload_n 0, 1) := by decide +kernel
theorem d_Ex_goThrough_93 : decode prog_2_method_9_code 93 = .ok (.invokevirtual 65, 3) := by decide +kernel
theorem d_Ex_goThrough_96 : decode prog_2_method_9_code 96 = .ok (.iinc 1 1, 3) := by decide +kernel
theorem d_Ex_goThrough_99 : decode prog_2_method_9_code 99 = .ok (.goto (-93), 3) := by decide +kernel
theorem d_Ex_goThrough_102 : decode prog_2_method_9_code 102 = .ok (.aload_n 0, 1) := by decide +kernel
theorem d_Ex_goThrough_103 : decode prog_2_method_9_code 103 = .ok (.invokevirtual 68, 3) := by decide +kernel
theorem d_Ex_goThrough_106 : decode prog_2_method_9_code 106 = .ok (.return_, 1) := by decide +kernel
def f_Ex_goThrough_L6 : Nat → cs_Mem → Int32 → cs_Mem
  | 0, M, y1 => M
  | fuel + 1, M, y1 =>
    if 1000000 ≤ y1 then
      cs_bd (f_Ex_finish M 55) fun (u4 : cs_Mem) =>
      u4
    else
      if (M 55 7) < 0 then
        cs_bd (f_Ex_finish M 55) fun (u6 : cs_Mem) =>
        u6
      else
        if 3000 < (M 55 5) then
          cs_bd (f_Ex_finish M 55) fun (u8 : cs_Mem) =>
          u8
        else
          cs_bd (f_Ma_nextAble M 56 (M 60 (M 55 7).toNatClampNeg)) fun (r11 : Int32) =>
          if 3 ≤ r11 then
            if (M 60 (M 55 7).toNatClampNeg) = 0 then
              cs_bd (f_Ex_endOrder M ) fun (u19 : cs_Mem) =>
              cs_bd (f_Ex_goUp u19 55) fun (u22 : cs_Mem) =>
              cs_bd (y1 + 1) fun (z23 : Int32) =>
              f_Ex_goThrough_L6 fuel u22 z23
            else
              cs_bd (f_Ex_goUp M 55) fun (u16 : cs_Mem) =>
              cs_bd (y1 + 1) fun (z17 : Int32) =>
              f_Ex_goThrough_L6 fuel u16 z17
          else
            if 89 ≤ (M 55 7) then
              if (M 60 (M 55 7).toNatClampNeg) = 0 then
                cs_bd (f_Ex_endOrder M ) fun (u31 : cs_Mem) =>
                cs_bd (f_Ex_goUp u31 55) fun (u34 : cs_Mem) =>
                cs_bd (y1 + 1) fun (z35 : Int32) =>
                f_Ex_goThrough_L6 fuel u34 z35
              else
                cs_bd (f_Ex_goUp M 55) fun (u28 : cs_Mem) =>
                cs_bd (y1 + 1) fun (z29 : Int32) =>
                f_Ex_goThrough_L6 fuel u28 z29
            else
              cs_bd (f_Ex_goDown M 55 r11) fun (u37 : cs_Mem) =>
              cs_bd (f_Ma_advance u37 56 r11) fun (u39 : cs_Mem) =>
              cs_bd (y1 + 1) fun (z40 : Int32) =>
              f_Ex_goThrough_L6 fuel u39 z40
def pre_Ex_goThrough_L6 : Nat → cs_Mem → Int32 → Prop
  | 0, _, _ => False
  | fuel + 1, M, y1 =>
    (1000000 ≤ y1 →
      True
    ) ∧ (¬ (1000000 ≤ y1) →
      ((M 55 7) < 0 →
        True
      ) ∧ (¬ ((M 55 7) < 0) →
        (3000 < (M 55 5) →
          True
        ) ∧ (¬ (3000 < (M 55 5)) →
          (vp_in (M 55 7) (cs_ln M 60)) ∧
          (pre_Ma_nextAble M 56 (M 60 (M 55 7).toNatClampNeg)) ∧
          cs_bd (f_Ma_nextAble M 56 (M 60 (M 55 7).toNatClampNeg)) fun (r11 : Int32) =>
          (3 ≤ r11 →
            (vp_in (M 55 7) (cs_ln M 60)) ∧
            ((M 60 (M 55 7).toNatClampNeg) = 0 →
              (pre_Ex_endOrder M ) ∧
              (cs_ln M 61 ≤ cs_ln (f_Ex_endOrder M ) 61 ∧ cs_ln (f_Ex_endOrder M ) 61 ≤ 4096 ∧ (¬ cs_ln (f_Ex_endOrder M ) 61 = cs_ln M 61 → cs_ln M 61 + 4 ≤ cs_ln (f_Ex_endOrder M ) 61)) ∧
              cs_bd (f_Ex_endOrder M ) fun (u19 : cs_Mem) =>
              (pre_Ex_goUp u19 55) ∧
              cs_bd (f_Ex_goUp u19 55) fun (u22 : cs_Mem) =>
              cs_bd (y1 + 1) fun (z23 : Int32) =>
              pre_Ex_goThrough_L6 fuel u22 z23
            ) ∧ (¬ ((M 60 (M 55 7).toNatClampNeg) = 0) →
              (pre_Ex_goUp M 55) ∧
              cs_bd (f_Ex_goUp M 55) fun (u16 : cs_Mem) =>
              cs_bd (y1 + 1) fun (z17 : Int32) =>
              pre_Ex_goThrough_L6 fuel u16 z17
            )
          ) ∧ (¬ (3 ≤ r11) →
            (89 ≤ (M 55 7) →
              (vp_in (M 55 7) (cs_ln M 60)) ∧
              ((M 60 (M 55 7).toNatClampNeg) = 0 →
                (pre_Ex_endOrder M ) ∧
                (cs_ln M 61 ≤ cs_ln (f_Ex_endOrder M ) 61 ∧ cs_ln (f_Ex_endOrder M ) 61 ≤ 4096 ∧ (¬ cs_ln (f_Ex_endOrder M ) 61 = cs_ln M 61 → cs_ln M 61 + 4 ≤ cs_ln (f_Ex_endOrder M ) 61)) ∧
                cs_bd (f_Ex_endOrder M ) fun (u31 : cs_Mem) =>
                (pre_Ex_goUp u31 55) ∧
                cs_bd (f_Ex_goUp u31 55) fun (u34 : cs_Mem) =>
                cs_bd (y1 + 1) fun (z35 : Int32) =>
                pre_Ex_goThrough_L6 fuel u34 z35
              ) ∧ (¬ ((M 60 (M 55 7).toNatClampNeg) = 0) →
                (pre_Ex_goUp M 55) ∧
                cs_bd (f_Ex_goUp M 55) fun (u28 : cs_Mem) =>
                cs_bd (y1 + 1) fun (z29 : Int32) =>
                pre_Ex_goThrough_L6 fuel u28 z29
              )
            ) ∧ (¬ (89 ≤ (M 55 7)) →
              (pre_Ex_goDown M 55 r11) ∧
              cs_bd (f_Ex_goDown M 55 r11) fun (u37 : cs_Mem) =>
              (pre_Ma_advance u37 56 r11) ∧
              cs_bd (f_Ma_advance u37 56 r11) fun (u39 : cs_Mem) =>
              cs_bd (y1 + 1) fun (z40 : Int32) =>
              pre_Ex_goThrough_L6 fuel u39 z40
            )
          )
        )
      )
    )
def f_Ex_goThrough (M : cs_Mem)  : cs_Mem :=
  cs_bd (f_Ex_begin M 55) fun (u2 : cs_Mem) =>
  f_Ex_goThrough_L6 1000001 u2 0
def pre_Ex_goThrough (M : cs_Mem)  : Prop :=
  (pre_Ex_begin M 55) ∧
  cs_bd (f_Ex_begin M 55) fun (u2 : cs_Mem) =>
  pre_Ex_goThrough_L6 1000001 u2 0
set_option maxHeartbeats 4000000 in
set_option maxRecDepth 100000 in
theorem w_Ex_goThrough_L6 {p : Program} {l : Launch} {e : Env} {s : State} {m : MethodId} {args : Array Value} {below : List Frame} {meth : Method} {c : Code} {D : va_G} {cA : Nat → ClassId} {A : Nat → Prop} {ad0 : Nat → Nat} {L0 : Nat} {F : cs_Mem} (hC : cs_Ctx p s m args c prog_2_method_9_code 3 "ClassStarter$Explorer" D cA A) (hr : meth.sig.returnType = none) (hlk : meth.locks = false) (fuel : Nat) : ∀ (kc ks : Nat) (ad : Nat → Nat) (M : cs_Mem) (y1 : Int32) (H : Heap) (locs : List Loc) (ls : Array Slot), cs_Wd D cA ad M A s H locs → lv_has ls 3 [(0, .ref (ad 55)), (1, .int y1)] → (∀ i, i ≠ 61 → ad i = ad0 i) → cs_Hk L0 kc ks (cs_ln M 61) → pre_Ex_goThrough_L6 fuel M y1 → F = f_Ex_goThrough_L6 fuel M y1 → W p l e ({ frames := 5, cells := 1024, slots := 8192, locals := 146 }) s m args below meth c H locs kc ks (MQ below (cs_QvG D cA ad0 F A) args s 1024 8192 A) (F0 m 6 ls []) := by
  have hx := hC.1
  have hb := hC.2.1
  induction fuel with
  | zero =>
    intro kc ks ad M y1 H locs ls hw hl  hab0 hk hp hf
    exact absurd hp (by simp [pre_Ex_goThrough_L6])
  | succ fuel ih =>
    intro kc ks ad M y1 H locs ls hw hl  hab0 hk hp hf
    rw [f_Ex_goThrough_L6] at hf
    rw [pre_Ex_goThrough_L6] at hp
    refine lv_iload_n hx hb d_Ex_goThrough_6 rfl (lv_at hl 1 rfl) ?_
    refine lv_ldc (v := 1000000) hx hb hC.2.2.2.1 (hC.2.2.2.2.1 _ wd_463) d_Ex_goThrough_7 ?_
    refine lv_icmp_ge (tgt := 102) hx hb d_Ex_goThrough_9 (by decide) (fun c3 => ?_) (fun c3 => ?_)
    · have hp := hp.1 c3
      have hf := hf.trans (if_pos c3)
      refine lv_aload_n hx hb d_Ex_goThrough_102 rfl (lv_at hl 0 rfl) ?_
      refine cs_ret_v hC hw (cs_runV (As := []) (rest := []) hC hw is_55.2 (ci := 4) rfl rfl (cs_sg_is is_55) (c_Ex_finish l D cA ad M 55 is_55 _) rfl rfl cw_Ex_68 ⟨Nat.le_of_ble_eq_true rfl, Nat.le_of_ble_eq_true rfl⟩ hl.1 rfl rfl (Nat.le_of_ble_eq_true rfl) d_Ex_goThrough_103 (cs_hkR hk)) (fun u4 H locs eu4 hw => ?_)
      have hf := cs_bdE eu4 hf
      have hk := cs_hkE (show cs_ln u4 61 = _ from by rw [eu4]; exact cs_ln_of (fr_Ex_finish (by decide)) 61) hk
      exact cs_vretG hC hw hr hlk hf hab0 (cs_hkR hk) d_Ex_goThrough_106
    · have hp := hp.2 c3
      have hf := hf.trans (if_neg c3)
      refine lv_aload_n hx hb d_Ex_goThrough_12 rfl (lv_at hl 0 rfl) ?_
      refine gf_Ex_depth hC hw is_55 wd_153 d_Ex_goThrough_13 ?_
      refine lv_if_lt (tgt := 102) hx hb d_Ex_goThrough_16 (by decide) (fun c5 => ?_) (fun c5 => ?_)
      · have hp := hp.1 c5
        have hf := hf.trans (if_pos c5)
        refine lv_aload_n hx hb d_Ex_goThrough_102 rfl (lv_at hl 0 rfl) ?_
        refine cs_ret_v hC hw (cs_runV (As := []) (rest := []) hC hw is_55.2 (ci := 4) rfl rfl (cs_sg_is is_55) (c_Ex_finish l D cA ad M 55 is_55 _) rfl rfl cw_Ex_68 ⟨Nat.le_of_ble_eq_true rfl, Nat.le_of_ble_eq_true rfl⟩ hl.1 rfl rfl (Nat.le_of_ble_eq_true rfl) d_Ex_goThrough_103 (cs_hkR hk)) (fun u6 H locs eu6 hw => ?_)
        have hf := cs_bdE eu6 hf
        have hk := cs_hkE (show cs_ln u6 61 = _ from by rw [eu6]; exact cs_ln_of (fr_Ex_finish (by decide)) 61) hk
        exact cs_vretG hC hw hr hlk hf hab0 (cs_hkR hk) d_Ex_goThrough_106
      · have hp := hp.2 c5
        have hf := hf.trans (if_neg c5)
        refine lv_aload_n hx hb d_Ex_goThrough_19 rfl (lv_at hl 0 rfl) ?_
        refine gf_Ex_orders hC hw is_55 wd_151 d_Ex_goThrough_20 ?_
        refine lv_sipush (v := 3000) hx hb d_Ex_goThrough_23 (by decide) ?_
        refine lv_icmp_gt (tgt := 102) hx hb d_Ex_goThrough_26 (by decide) (fun c7 => ?_) (fun c7 => ?_)
        · have hp := hp.1 c7
          have hf := hf.trans (if_pos c7)
          refine lv_aload_n hx hb d_Ex_goThrough_102 rfl (lv_at hl 0 rfl) ?_
          refine cs_ret_v hC hw (cs_runV (As := []) (rest := []) hC hw is_55.2 (ci := 4) rfl rfl (cs_sg_is is_55) (c_Ex_finish l D cA ad M 55 is_55 _) rfl rfl cw_Ex_68 ⟨Nat.le_of_ble_eq_true rfl, Nat.le_of_ble_eq_true rfl⟩ hl.1 rfl rfl (Nat.le_of_ble_eq_true rfl) d_Ex_goThrough_103 (cs_hkR hk)) (fun u8 H locs eu8 hw => ?_)
          have hf := cs_bdE eu8 hf
          have hk := cs_hkE (show cs_ln u8 61 = _ from by rw [eu8]; exact cs_ln_of (fr_Ex_finish (by decide)) 61) hk
          exact cs_vretG hC hw hr hlk hf hab0 (cs_hkR hk) d_Ex_goThrough_106
        · have hp := hp.2 c7
          have hf := hf.trans (if_neg c7)
          refine lv_aload_n hx hb d_Ex_goThrough_29 rfl (lv_at hl 0 rfl) ?_
          refine gf_Ex_machine hC hw is_55 wd_146 d_Ex_goThrough_30 ?_
          refine lv_aload_n hx hb d_Ex_goThrough_33 rfl (lv_at hl 0 rfl) ?_
          refine gf_Ex_untried hC hw is_55 wd_148 d_Ex_goThrough_34 ?_
          refine lv_aload_n hx hb d_Ex_goThrough_37 rfl (lv_at hl 0 rfl) ?_
          refine gf_Ex_depth hC hw is_55 wd_153 d_Ex_goThrough_38 ?_
          have o9 := hp.1
          have hp := hp.2
          refine cs_iald hC hw is_60 o9 d_Ex_goThrough_41 ?_
          have o10 := hp.1
          have hp := hp.2
          refine cs_ret_p hC hw (cs_runV (As := [.int (M 60 (M 55 7).toNatClampNeg)]) (rest := []) hC hw is_56.2 (ci := 3) rfl rfl (cs_sg_is is_56) (c_Ma_nextAble l D cA ad M 56 is_56 (M 60 (M 55 7).toNatClampNeg) o10 _) rfl rfl cw_Ex_51 ⟨Nat.le_of_ble_eq_true rfl, Nat.le_of_ble_eq_true rfl⟩ hl.1 rfl rfl (Nat.le_of_ble_eq_true rfl) d_Ex_goThrough_42 (cs_hkR hk)) (fun r11 H locs er11 hw => ?_)
          have hp := cs_bdP er11 hp
          have hf := cs_bdE er11 hf
          refine lv_istore_n (lv' := [(2, .int r11), (0, .ref (ad 55)), (1, .int y1)]) hx hb d_Ex_goThrough_45 rfl hl (by decide) rfl (fun ls hl => ?_)
          refine lv_iload_n hx hb d_Ex_goThrough_46 rfl (lv_at hl 0 rfl) ?_
          refine lv_iconst (v := 3) hx hb d_Ex_goThrough_47 (by decide) ?_
          refine lv_icmp_ge (tgt := 76) hx hb d_Ex_goThrough_48 (by decide) (fun c12 => ?_) (fun c12 => ?_)
          · have hp := hp.1 c12
            have hf := hf.trans (if_pos c12)
            refine lv_aload_n hx hb d_Ex_goThrough_76 rfl (lv_at hl 1 rfl) ?_
            refine gf_Ex_untried hC hw is_55 wd_148 d_Ex_goThrough_77 ?_
            refine lv_aload_n hx hb d_Ex_goThrough_80 rfl (lv_at hl 1 rfl) ?_
            refine gf_Ex_depth hC hw is_55 wd_153 d_Ex_goThrough_81 ?_
            have o13 := hp.1
            have hp := hp.2
            refine cs_iald hC hw is_60 o13 d_Ex_goThrough_84 ?_
            refine lv_if_ne (tgt := 92) hx hb d_Ex_goThrough_85 (by decide) (fun c14 => ?_) (fun c14 => ?_)
            · have hp := hp.2 c14
              have hf := hf.trans (if_neg c14)
              refine lv_aload_n hx hb d_Ex_goThrough_92 rfl (lv_at hl 1 rfl) ?_
              have o15 := hp.1
              have hp := hp.2
              refine cs_ret_v hC hw (cs_runV (As := []) (rest := []) hC hw is_55.2 (ci := 4) rfl rfl (cs_sg_is is_55) (c_Ex_goUp l D cA ad M 55 is_55 o15 _) rfl rfl cw_Ex_65 ⟨Nat.le_of_ble_eq_true rfl, Nat.le_of_ble_eq_true rfl⟩ hl.1 rfl rfl (Nat.le_of_ble_eq_true rfl) d_Ex_goThrough_93 (cs_hkR hk)) (fun u16 H locs eu16 hw => ?_)
              have hp := cs_bdP eu16 hp
              have hf := cs_bdE eu16 hf
              have hk := cs_hkE (show cs_ln u16 61 = _ from by rw [eu16]; exact cs_ln_of (fr_Ex_goUp (by decide) (by decide)) 61) hk
              obtain ⟨z17, ez17⟩ : ∃ y : Int32, y = y1 + 1 := ⟨_, rfl⟩
              have hp := cs_bdP ez17 hp
              have hf := cs_bdE ez17 hf
              refine lv_iinc (v := z17) (lv' := [(1, .int z17), (2, .int r11), (0, .ref (ad 55))]) hx hb d_Ex_goThrough_96 hl (k := 2) rfl (by rw [ez17]; rfl) (by decide) rfl (fun ls hl => ?_)
              refine lv_goto (tgt := 6) hx hb d_Ex_goThrough_99 (by decide) ?_
              exact ih _ _ ad u16 z17 _ _ ls hw (lv_sub hl [2, 0] rfl) hab0 hk hp hf
            · have hp := hp.1 c14
              have hf := hf.trans (if_pos c14)
              refine lv_aload_n hx hb d_Ex_goThrough_88 rfl (lv_at hl 1 rfl) ?_
              have o18 := hp.1
              have hp := hp.2
              have o20 := hp.1
              have hp := hp.2
              refine cs_ret_vGk (F := f_Ex_endOrder M ) hC hw hk o20 (cs_runV (mc := cs_gc (cs_ln M 61) (cs_ln (f_Ex_endOrder M ) 61)) (ms := cs_gs (cs_ln M 61) (cs_ln (f_Ex_endOrder M ) 61)) (As := []) (rest := []) hC hw is_55.2 (ci := 4) rfl rfl (cs_sg_is is_55) (c_Ex_endOrder l D cA ad M o18 _) (cs_rmc _ _ _ _) (cs_rms _ _ _ _) cw_Ex_62 ⟨Nat.le_of_ble_eq_true rfl, Nat.le_of_ble_eq_true rfl⟩ hl.1 rfl rfl (Nat.le_of_ble_eq_true rfl) d_Ex_goThrough_89 (cs_hkG hk o20).2) (fun kc ks ad u19 H locs eu19 hab hw hk => ?_)
              have hp := cs_bdP eu19 hp
              have hf := cs_bdE eu19 hf
              have hl : lv_has ls 3 [(2, .int r11), (0, .ref (ad 55)), (1, .int y1)] := by rw [hab 55 (by decide)]; exact hl
              have hab0 := fun i h => (hab i h).trans (hab0 i h)
              refine lv_aload_n hx hb d_Ex_goThrough_92 rfl (lv_at hl 1 rfl) ?_
              have o21 := hp.1
              have hp := hp.2
              refine cs_ret_v hC hw (cs_runV (As := []) (rest := []) hC hw is_55.2 (ci := 4) rfl rfl (cs_sg_is is_55) (c_Ex_goUp l D cA ad u19 55 is_55 o21 _) rfl rfl cw_Ex_65 ⟨Nat.le_of_ble_eq_true rfl, Nat.le_of_ble_eq_true rfl⟩ hl.1 rfl rfl (Nat.le_of_ble_eq_true rfl) d_Ex_goThrough_93 (cs_hkR hk)) (fun u22 H locs eu22 hw => ?_)
              have hp := cs_bdP eu22 hp
              have hf := cs_bdE eu22 hf
              have hk := cs_hkE (show cs_ln u22 61 = _ from by rw [eu22]; exact cs_ln_of (fr_Ex_goUp (by decide) (by decide)) 61) hk
              obtain ⟨z23, ez23⟩ : ∃ y : Int32, y = y1 + 1 := ⟨_, rfl⟩
              have hp := cs_bdP ez23 hp
              have hf := cs_bdE ez23 hf
              refine lv_iinc (v := z23) (lv' := [(1, .int z23), (2, .int r11), (0, .ref (ad 55))]) hx hb d_Ex_goThrough_96 hl (k := 2) rfl (by rw [ez23]; rfl) (by decide) rfl (fun ls hl => ?_)
              refine lv_goto (tgt := 6) hx hb d_Ex_goThrough_99 (by decide) ?_
              exact ih _ _ ad u22 z23 _ _ ls hw (lv_sub hl [2, 0] rfl) hab0 hk hp hf
          · have hp := hp.2 c12
            have hf := hf.trans (if_neg c12)
            refine lv_aload_n hx hb d_Ex_goThrough_51 rfl (lv_at hl 1 rfl) ?_
            refine gf_Ex_depth hC hw is_55 wd_153 d_Ex_goThrough_52 ?_
            refine lv_bipush (v := 89) hx hb d_Ex_goThrough_55 (by decide) ?_
            refine lv_icmp_ge (tgt := 76) hx hb d_Ex_goThrough_57 (by decide) (fun c24 => ?_) (fun c24 => ?_)
            · have hp := hp.1 c24
              have hf := hf.trans (if_pos c24)
              refine lv_aload_n hx hb d_Ex_goThrough_76 rfl (lv_at hl 1 rfl) ?_
              refine gf_Ex_untried hC hw is_55 wd_148 d_Ex_goThrough_77 ?_
              refine lv_aload_n hx hb d_Ex_goThrough_80 rfl (lv_at hl 1 rfl) ?_
              refine gf_Ex_depth hC hw is_55 wd_153 d_Ex_goThrough_81 ?_
              have o25 := hp.1
              have hp := hp.2
              refine cs_iald hC hw is_60 o25 d_Ex_goThrough_84 ?_
              refine lv_if_ne (tgt := 92) hx hb d_Ex_goThrough_85 (by decide) (fun c26 => ?_) (fun c26 => ?_)
              · have hp := hp.2 c26
                have hf := hf.trans (if_neg c26)
                refine lv_aload_n hx hb d_Ex_goThrough_92 rfl (lv_at hl 1 rfl) ?_
                have o27 := hp.1
                have hp := hp.2
                refine cs_ret_v hC hw (cs_runV (As := []) (rest := []) hC hw is_55.2 (ci := 4) rfl rfl (cs_sg_is is_55) (c_Ex_goUp l D cA ad M 55 is_55 o27 _) rfl rfl cw_Ex_65 ⟨Nat.le_of_ble_eq_true rfl, Nat.le_of_ble_eq_true rfl⟩ hl.1 rfl rfl (Nat.le_of_ble_eq_true rfl) d_Ex_goThrough_93 (cs_hkR hk)) (fun u28 H locs eu28 hw => ?_)
                have hp := cs_bdP eu28 hp
                have hf := cs_bdE eu28 hf
                have hk := cs_hkE (show cs_ln u28 61 = _ from by rw [eu28]; exact cs_ln_of (fr_Ex_goUp (by decide) (by decide)) 61) hk
                obtain ⟨z29, ez29⟩ : ∃ y : Int32, y = y1 + 1 := ⟨_, rfl⟩
                have hp := cs_bdP ez29 hp
                have hf := cs_bdE ez29 hf
                refine lv_iinc (v := z29) (lv' := [(1, .int z29), (2, .int r11), (0, .ref (ad 55))]) hx hb d_Ex_goThrough_96 hl (k := 2) rfl (by rw [ez29]; rfl) (by decide) rfl (fun ls hl => ?_)
                refine lv_goto (tgt := 6) hx hb d_Ex_goThrough_99 (by decide) ?_
                exact ih _ _ ad u28 z29 _ _ ls hw (lv_sub hl [2, 0] rfl) hab0 hk hp hf
              · have hp := hp.1 c26
                have hf := hf.trans (if_pos c26)
                refine lv_aload_n hx hb d_Ex_goThrough_88 rfl (lv_at hl 1 rfl) ?_
                have o30 := hp.1
                have hp := hp.2
                have o32 := hp.1
                have hp := hp.2
                refine cs_ret_vGk (F := f_Ex_endOrder M ) hC hw hk o32 (cs_runV (mc := cs_gc (cs_ln M 61) (cs_ln (f_Ex_endOrder M ) 61)) (ms := cs_gs (cs_ln M 61) (cs_ln (f_Ex_endOrder M ) 61)) (As := []) (rest := []) hC hw is_55.2 (ci := 4) rfl rfl (cs_sg_is is_55) (c_Ex_endOrder l D cA ad M o30 _) (cs_rmc _ _ _ _) (cs_rms _ _ _ _) cw_Ex_62 ⟨Nat.le_of_ble_eq_true rfl, Nat.le_of_ble_eq_true rfl⟩ hl.1 rfl rfl (Nat.le_of_ble_eq_true rfl) d_Ex_goThrough_89 (cs_hkG hk o32).2) (fun kc ks ad u31 H locs eu31 hab hw hk => ?_)
                have hp := cs_bdP eu31 hp
                have hf := cs_bdE eu31 hf
                have hl : lv_has ls 3 [(2, .int r11), (0, .ref (ad 55)), (1, .int y1)] := by rw [hab 55 (by decide)]; exact hl
                have hab0 := fun i h => (hab i h).trans (hab0 i h)
                refine lv_aload_n hx hb d_Ex_goThrough_92 rfl (lv_at hl 1 rfl) ?_
                have o33 := hp.1
                have hp := hp.2
                refine cs_ret_v hC hw (cs_runV (As := []) (rest := []) hC hw is_55.2 (ci := 4) rfl rfl (cs_sg_is is_55) (c_Ex_goUp l D cA ad u31 55 is_55 o33 _) rfl rfl cw_Ex_65 ⟨Nat.le_of_ble_eq_true rfl, Nat.le_of_ble_eq_true rfl⟩ hl.1 rfl rfl (Nat.le_of_ble_eq_true rfl) d_Ex_goThrough_93 (cs_hkR hk)) (fun u34 H locs eu34 hw => ?_)
                have hp := cs_bdP eu34 hp
                have hf := cs_bdE eu34 hf
                have hk := cs_hkE (show cs_ln u34 61 = _ from by rw [eu34]; exact cs_ln_of (fr_Ex_goUp (by decide) (by decide)) 61) hk
                obtain ⟨z35, ez35⟩ : ∃ y : Int32, y = y1 + 1 := ⟨_, rfl⟩
                have hp := cs_bdP ez35 hp
                have hf := cs_bdE ez35 hf
                refine lv_iinc (v := z35) (lv' := [(1, .int z35), (2, .int r11), (0, .ref (ad 55))]) hx hb d_Ex_goThrough_96 hl (k := 2) rfl (by rw [ez35]; rfl) (by decide) rfl (fun ls hl => ?_)
                refine lv_goto (tgt := 6) hx hb d_Ex_goThrough_99 (by decide) ?_
                exact ih _ _ ad u34 z35 _ _ ls hw (lv_sub hl [2, 0] rfl) hab0 hk hp hf
            · have hp := hp.2 c24
              have hf := hf.trans (if_neg c24)
              refine lv_aload_n hx hb d_Ex_goThrough_60 rfl (lv_at hl 1 rfl) ?_
              refine lv_iload_n hx hb d_Ex_goThrough_61 rfl (lv_at hl 0 rfl) ?_
              have o36 := hp.1
              have hp := hp.2
              refine cs_ret_v hC hw (cs_runV (As := [.int r11]) (rest := []) hC hw is_55.2 (ci := 4) rfl rfl (cs_sg_is is_55) (c_Ex_goDown l D cA ad M 55 is_55 r11 o36 _) rfl rfl cw_Ex_55 ⟨Nat.le_of_ble_eq_true rfl, Nat.le_of_ble_eq_true rfl⟩ hl.1 rfl rfl (Nat.le_of_ble_eq_true rfl) d_Ex_goThrough_62 (cs_hkR hk)) (fun u37 H locs eu37 hw => ?_)
              have hp := cs_bdP eu37 hp
              have hf := cs_bdE eu37 hf
              have hk := cs_hkE (show cs_ln u37 61 = _ from by rw [eu37]; exact cs_ln_of (fr_Ex_goDown (by decide) (by decide) (by decide)) 61) hk
              refine lv_aload_n hx hb d_Ex_goThrough_65 rfl (lv_at hl 1 rfl) ?_
              refine gf_Ex_machine hC hw is_55 wd_146 d_Ex_goThrough_66 ?_
              refine lv_iload_n hx hb d_Ex_goThrough_69 rfl (lv_at hl 0 rfl) ?_
              have o38 := hp.1
              have hp := hp.2
              refine cs_ret_v hC hw (cs_runV (As := [.int r11]) (rest := []) hC hw is_56.2 (ci := 3) rfl rfl (cs_sg_is is_56) (c_Ma_advance l D cA ad u37 56 is_56 r11 o38 _) rfl rfl cw_Ex_59 ⟨Nat.le_of_ble_eq_true rfl, Nat.le_of_ble_eq_true rfl⟩ hl.1 rfl rfl (Nat.le_of_ble_eq_true rfl) d_Ex_goThrough_70 (cs_hkR hk)) (fun u39 H locs eu39 hw => ?_)
              have hp := cs_bdP eu39 hp
              have hf := cs_bdE eu39 hf
              have hk := cs_hkE (show cs_ln u39 61 = _ from by rw [eu39]; exact cs_ln_of (fr_Ma_advance (by decide) (by decide)) 61) hk
              refine lv_goto (tgt := 96) hx hb d_Ex_goThrough_73 (by decide) ?_
              obtain ⟨z40, ez40⟩ : ∃ y : Int32, y = y1 + 1 := ⟨_, rfl⟩
              have hp := cs_bdP ez40 hp
              have hf := cs_bdE ez40 hf
              refine lv_iinc (v := z40) (lv' := [(1, .int z40), (2, .int r11), (0, .ref (ad 55))]) hx hb d_Ex_goThrough_96 hl (k := 2) rfl (by rw [ez40]; rfl) (by decide) rfl (fun ls hl => ?_)
              refine lv_goto (tgt := 6) hx hb d_Ex_goThrough_99 (by decide) ?_
              exact ih _ _ ad u39 z40 _ _ ls hw (lv_sub hl [2, 0] rfl) hab0 hk hp hf
set_option maxHeartbeats 4000000 in
set_option maxRecDepth 100000 in
theorem c_Ex_goThrough (l : Launch) (D : va_G) (cA : Nat → ClassId) (ad : Nat → Nat) (M : cs_Mem) (hp : pre_Ex_goThrough M ) (h96 : cs_ln M 61 ≤ 4096) : cs_CvG l ⟨"ClassStarter$Explorer", "goThrough", "()V"⟩ prog_2_method_9_code 3 none 5 146 1024 8192 D cA ad M [.ref (ad 55)] (f_Ex_goThrough M ) := by
  refine cs_entry (by decide) (Nat.le_of_ble_eq_true rfl) (fun p e s m below meth c A ls hC hr hlk _ hw hl => ?_)
  have hx := hC.1
  have hb := hC.2.1
  have hl : lv_has ls 3 [(0, .ref (ad 55))] := hl
  generalize hF : f_Ex_goThrough M  = F
  have hf := hF.symm
  unfold f_Ex_goThrough at hf
  unfold pre_Ex_goThrough at hp
  have hab0 : ∀ i, i ≠ 61 → ad i = ad i := fun _ _ => rfl
  obtain ⟨L0, hL0⟩ : ∃ z, cs_ln M 61 = z := ⟨_, rfl⟩
  have hk : cs_Hk L0 0 0 (cs_ln M 61) := by rw [hL0] at h96 ⊢; exact ⟨Nat.le_refl _, by omega, h96⟩
  refine lv_aload_n hx hb d_Ex_goThrough_0 rfl (lv_at hl 0 rfl) ?_
  have o1 := hp.1
  have hp := hp.2
  refine cs_ret_v hC hw (cs_runV (As := []) (rest := []) hC hw is_55.2 (ci := 4) rfl rfl (cs_sg_is is_55) (c_Ex_begin l D cA ad M 55 is_55 o1 _) rfl rfl cw_Ex_44 ⟨Nat.le_of_ble_eq_true rfl, Nat.le_of_ble_eq_true rfl⟩ hl.1 rfl rfl (Nat.le_of_ble_eq_true rfl) d_Ex_goThrough_1 (cs_hkR hk)) (fun u2 H locs eu2 hw => ?_)
  have hp := cs_bdP eu2 hp
  have hf := cs_bdE eu2 hf
  have hk := cs_hkE (show cs_ln u2 61 = _ from by rw [eu2]; exact cs_ln_of (fr_Ex_begin (by decide) (by decide) (by decide)) 61) hk
  refine lv_iconst (v := 0) hx hb d_Ex_goThrough_4 (by decide) ?_
  refine lv_istore_n (lv' := [(1, .int 0), (0, .ref (ad 55))]) hx hb d_Ex_goThrough_5 rfl hl (by decide) rfl (fun ls hl => ?_)
  exact w_Ex_goThrough_L6 hC hr hlk 1000001 _ _ ad u2 0 _ _ ls hw (lv_sub hl [1, 0] rfl) hab0 hk hp hf
theorem d_X_explore_0 : decode prog_1_method_14_code 0 = .ok (.aload_n 0, 1) := by decide +kernel
theorem d_X_explore_1 : decode prog_1_method_14_code 1 = .ok (.getfield 30, 3) := by decide +kernel
theorem d_X_explore_4 : decode prog_1_method_14_code 4 = .ok (.invokevirtual 106, 3) := by decide +kernel
theorem d_X_explore_7 : decode prog_1_method_14_code 7 = .ok (.ifCond .ne 10, 3) := by decide +kernel
theorem d_X_explore_10 : decode prog_1_method_14_code 10 = .ok (.aload_n 0, 1) := by decide +kernel
theorem d_X_explore_11 : decode prog_1_method_14_code 11 = .ok (.getfield 30, 3) := by decide +kernel
theorem d_X_explore_14 : decode prog_1_method_14_code 14 = .ok (.invokevirtual 109, 3) := by decide +kernel
theorem d_X_explore_17 : decode prog_1_method_14_code 17 = .ok (.aload_n 0, 1) := by decide +kernel
theorem d_X_explore_18 : decode prog_1_method_14_code 18 = .ok (.getfield 30, 3) := by decide +kernel
theorem d_X_explore_21 : decode prog_1_method_14_code 21 = .ok (.invokevirtual 112, 3) := by decide +kernel
theorem d_X_explore_24 : decode prog_1_method_14_code 24 = .ok (.ireturn, 1) := by decide +kernel
def f_X_explore (M : cs_Mem)  : Int32 × cs_Mem :=
  cs_bd (f_Ex_isKnown M 55) fun (r2 : Int32) =>
  if r2 = 0 then
    cs_bd (f_Ex_goThrough M ) fun (u6 : cs_Mem) =>
    cs_bd (f_Ex_answer u6 55) fun (r7 : Int32) =>
    (r7, u6)
  else
    cs_bd (f_Ex_answer M 55) fun (r4 : Int32) =>
    (r4, M)
def pre_X_explore (M : cs_Mem)  : Prop :=
  (pre_Ex_isKnown M 55) ∧
  cs_bd (f_Ex_isKnown M 55) fun (r2 : Int32) =>
  (r2 = 0 →
    (pre_Ex_goThrough M ) ∧
    True
  ) ∧ (¬ (r2 = 0) →
    True
  )
set_option maxHeartbeats 4000000 in
set_option maxRecDepth 100000 in
theorem c_X_explore (l : Launch) (D : va_G) (cA : Nat → ClassId) (ad : Nat → Nat) (M : cs_Mem) (hp : pre_X_explore M ) (h96 : cs_ln M 61 ≤ 4096) : cs_CiG l ⟨"ClassStarter", "explore", "()I"⟩ prog_1_method_14_code 1 (some .int) 6 168 1024 8192 D cA ad M [.ref (ad 0)] (f_X_explore M ) := by
  refine cs_entry (by decide) (Nat.le_of_ble_eq_true rfl) (fun p e s m below meth c A ls hC hr hlk _ hw hl => ?_)
  have hx := hC.1
  have hb := hC.2.1
  have hl : lv_has ls 1 [(0, .ref (ad 0))] := hl
  generalize hF : f_X_explore M  = F
  have hf := hF.symm
  unfold f_X_explore at hf
  unfold pre_X_explore at hp
  have hab0 : ∀ i, i ≠ 61 → ad i = ad i := fun _ _ => rfl
  refine lv_aload_n hx hb d_X_explore_0 rfl (lv_at hl 0 rfl) ?_
  refine gf_X_explorer hC hw is_0 wd_179 d_X_explore_1 ?_
  have o1 := hp.1
  have hp := hp.2
  refine cs_ret_p hC hw (cs_runV (As := []) (rest := []) hC hw is_55.2 (ci := 4) rfl rfl (cs_sg_is is_55) (c_Ex_isKnown l D cA ad M 55 is_55 o1 _) rfl rfl cw_X_106 ⟨Nat.le_of_ble_eq_true rfl, Nat.le_of_ble_eq_true rfl⟩ hl.1 rfl rfl (Nat.le_of_ble_eq_true rfl) d_X_explore_4 ⟨Nat.le_of_ble_eq_true rfl, Nat.le_of_ble_eq_true rfl⟩) (fun r2 H locs er2 hw => ?_)
  have hp := cs_bdP er2 hp
  have hf := cs_bdE er2 hf
  refine lv_if_ne (tgt := 17) hx hb d_X_explore_7 (by decide) (fun c3 => ?_) (fun c3 => ?_)
  · have hp := hp.2 c3
    have hf := hf.trans (if_neg c3)
    refine lv_aload_n hx hb d_X_explore_17 rfl (lv_at hl 0 rfl) ?_
    refine gf_X_explorer hC hw is_0 wd_179 d_X_explore_18 ?_
    refine cs_ret_p hC hw (cs_runV (As := []) (rest := []) hC hw is_55.2 (ci := 4) rfl rfl (cs_sg_is is_55) (c_Ex_answer l D cA ad M 55 is_55 _) rfl rfl cw_X_112 ⟨Nat.le_of_ble_eq_true rfl, Nat.le_of_ble_eq_true rfl⟩ hl.1 rfl rfl (Nat.le_of_ble_eq_true rfl) d_X_explore_21 ⟨Nat.le_of_ble_eq_true rfl, Nat.le_of_ble_eq_true rfl⟩) (fun r4 H locs er4 hw => ?_)
    have hf := cs_bdE er4 hf
    exact cs_iretG hC hw hr hlk hf hab0 ⟨Nat.le_of_ble_eq_true rfl, Nat.le_of_ble_eq_true rfl⟩ d_X_explore_24
  · have hp := hp.1 c3
    have hf := hf.trans (if_pos c3)
    refine lv_aload_n hx hb d_X_explore_10 rfl (lv_at hl 0 rfl) ?_
    refine gf_X_explorer hC hw is_0 wd_179 d_X_explore_11 ?_
    have o5 := hp.1
    have hp := hp.2
    refine cs_ret_vG hC hw (cs_runV (As := []) (rest := []) hC hw is_55.2 (ci := 4) rfl rfl (cs_sg_is is_55) (c_Ex_goThrough l D cA ad M o5 h96 _) (cs_rmc _ _ _ _) (cs_rms _ _ _ _) cw_X_109 ⟨Nat.le_of_ble_eq_true rfl, Nat.le_of_ble_eq_true rfl⟩ hl.1 rfl rfl (Nat.le_of_ble_eq_true rfl) d_X_explore_14 ⟨Nat.le_of_ble_eq_true rfl, Nat.le_of_ble_eq_true rfl⟩) (fun ad u6 H locs eu6 hab hw => ?_)
    have hf := cs_bdE eu6 hf
    have hl : lv_has ls 1 [(0, .ref (ad 0))] := by rw [hab 0 (by decide)]; exact hl
    have hab0 := fun i h => (hab i h).trans (hab0 i h)
    refine lv_aload_n hx hb d_X_explore_17 rfl (lv_at hl 0 rfl) ?_
    refine gf_X_explorer hC hw is_0 wd_179 d_X_explore_18 ?_
    refine cs_ret_p hC hw (cs_runV (As := []) (rest := []) hC hw is_55.2 (ci := 4) rfl rfl (cs_sg_is is_55) (c_Ex_answer l D cA ad u6 55 is_55 _) rfl rfl cw_X_112 ⟨Nat.le_of_ble_eq_true rfl, Nat.le_of_ble_eq_true rfl⟩ hl.1 rfl rfl (Nat.le_of_ble_eq_true rfl) d_X_explore_21 ⟨Nat.le_of_ble_eq_true rfl, Nat.le_of_ble_eq_true rfl⟩) (fun r7 H locs er7 hw => ?_)
    have hf := cs_bdE er7 hf
    exact cs_iretG hC hw hr hlk hf hab0 ⟨Nat.le_of_ble_eq_true rfl, Nat.le_of_ble_eq_true rfl⟩ d_X_explore_24
