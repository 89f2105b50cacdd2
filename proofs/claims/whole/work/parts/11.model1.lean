theorem d_Mo_out_0 : decode prog_8_method_2_code 0 = .ok (.iload_n 0, 1) := by decide +kernel
theorem d_Mo_out_1 : decode prog_8_method_2_code 1 = .ok (.ifCond .lt 8, 3) := by decide +kernel
theorem d_Mo_out_4 : decode prog_8_method_2_code 4 = .ok (.iload_n 0, 1) := by decide +kernel
theorem d_Mo_out_5 : decode prog_8_method_2_code 5 = .ok (.iload_n 1, 1) := by decide +kernel
theorem d_Mo_out_6 : decode prog_8_method_2_code 6 = .ok (.if_icmp .lt 7, 3) := by decide +kernel
theorem d_Mo_out_9 : decode prog_8_method_2_code 9 = .ok (.iconst 1, 1) := by decide +kernel
theorem d_Mo_out_10 : decode prog_8_method_2_code 10 = .ok (.goto 4, 3) := by decide +kernel
theorem d_Mo_out_13 : decode prog_8_method_2_code 13 = .ok (.iconst 0, 1) := by decide +kernel
theorem d_Mo_out_14 : decode prog_8_method_2_code 14 = .ok (.ireturn, 1) := by decide +kernel
def f_Mo_out (M : cs_Mem) (x0 : Int32) (x1 : Int32) : Int32 :=
  if x0 < 0 then
    1
  else
    if x0 < x1 then
      0
    else
      1
set_option maxHeartbeats 4000000 in
set_option maxRecDepth 100000 in
theorem c_Mo_out (l : Launch) (D : va_G) (cA : Nat → ClassId) (ad : Nat → Nat) (M : cs_Mem) (x0 : Int32) (x1 : Int32) : cs_Ci l ⟨"ClassStarterModel", "out", "(II)Z"⟩ prog_8_method_2_code 2 (some .boolean) ({ frames := 0, cells := 0, slots := 0, locals := 0 }) D cA ad M [.int x0, .int x1] ((f_Mo_out M x0 x1, M)) := by
  refine cs_entry (by decide) (Nat.le_of_ble_eq_true rfl) (fun p e s m below meth c A ls hC hr hlk _ hw hl => ?_)
  have hx := hC.1
  have hb := hC.2.1
  have hl : lv_has ls 2 [(0, .int x0), (1, .int x1)] := hl
  generalize hF : f_Mo_out M x0 x1 = F
  have hf := hF.symm
  unfold f_Mo_out at hf
  refine lv_iload_n hx hb d_Mo_out_0 rfl (lv_at hl 0 rfl) ?_
  refine lv_if_lt (tgt := 9) hx hb d_Mo_out_1 (by decide) (fun c1 => ?_) (fun c1 => ?_)
  · have hf := hf.trans (if_pos c1)
    refine lv_iconst (v := 1) hx hb d_Mo_out_9 (by decide) ?_
    refine lv_goto (tgt := 14) hx hb d_Mo_out_10 (by decide) ?_
    exact cs_zret hC hw hr hlk (Or.inr rfl) (congrArg (fun z => (z, M)) hf) d_Mo_out_14
  · have hf := hf.trans (if_neg c1)
    refine lv_iload_n hx hb d_Mo_out_4 rfl (lv_at hl 0 rfl) ?_
    refine lv_iload_n hx hb d_Mo_out_5 rfl (lv_at hl 1 rfl) ?_
    refine lv_icmp_lt (tgt := 13) hx hb d_Mo_out_6 (by decide) (fun c2 => ?_) (fun c2 => ?_)
    · have hf := hf.trans (if_pos c2)
      refine lv_iconst (v := 0) hx hb d_Mo_out_13 (by decide) ?_
      exact cs_zret hC hw hr hlk (Or.inl rfl) (congrArg (fun z => (z, M)) hf) d_Mo_out_14
    · have hf := hf.trans (if_neg c2)
      refine lv_iconst (v := 1) hx hb d_Mo_out_9 (by decide) ?_
      refine lv_goto (tgt := 14) hx hb d_Mo_out_10 (by decide) ?_
      exact cs_zret hC hw hr hlk (Or.inr rfl) (congrArg (fun z => (z, M)) hf) d_Mo_out_14
theorem d_Mo_declare_0 : decode prog_8_method_3_code 0 = .ok (.aload_n 0, 1) := by decide +kernel
theorem d_Mo_declare_1 : decode prog_8_method_3_code 1 = .ok (.getfield 83, 3) := by decide +kernel
theorem d_Mo_declare_4 : decode prog_8_method_3_code 4 = .ok (.ifCond .ne 25, 3) := by decide +kernel
theorem d_Mo_declare_7 : decode prog_8_method_3_code 7 = .ok (.iload_n 1, 1) := by decide +kernel
theorem d_Mo_declare_8 : decode prog_8_method_3_code 8 = .ok (.iconst (-1), 1) := by decide +kernel
theorem d_Mo_declare_9 : decode prog_8_method_3_code 9 = .ok (.if_icmp .lt 20, 3) := by decide +kernel
theorem d_Mo_declare_12 : decode prog_8_method_3_code 12 = .ok (.iload_n 1, 1) := by decide +kernel
theorem d_Mo_declare_13 : decode prog_8_method_3_code 13 = .ok (.aload_n 0, 1) := by decide +kernel
theorem d_Mo_declare_14 : decode prog_8_method_3_code 14 = .ok (.getfield 87, 3) := by decide +kernel
theorem d_Mo_declare_17 : decode prog_8_method_3_code 17 = .ok (.if_icmp .ge 12, 3) := by decide +kernel
theorem d_Mo_declare_20 : decode prog_8_method_3_code 20 = .ok (.iload_n 2, 1) := by decide +kernel
theorem d_Mo_declare_21 : decode prog_8_method_3_code 21 = .ok (.ifCond .eq 10, 3) := by decide +kernel
theorem d_Mo_declare_24 : decode prog_8_method_3_code 24 = .ok (.iload_n 1, 1) := by decide +kernel
theorem d_Mo_declare_25 : decode prog_8_method_3_code 25 = .ok (.iconst (-1), 1) := by decide +kernel
theorem d_Mo_declare_26 : decode prog_8_method_3_code 26 = .ok (.if_icmp .eq 5, 3) := by decide +kernel
theorem d_Mo_declare_29 : decode prog_8_method_3_code 29 = .ok (.iconst (-1), 1) := by decide +kernel
theorem d_Mo_declare_30 : decode prog_8_method_3_code 30 = .ok (.ireturn, 1) := by decide +kernel
theorem d_Mo_declare_31 : decode prog_8_method_3_code 31 = .ok (.iload_n 1, 1) := by decide +kernel
theorem d_Mo_declare_32 : decode prog_8_method_3_code 32 = .ok (.ifCond .lt 14, 3) := by decide +kernel
theorem d_Mo_declare_35 : decode prog_8_method_3_code 35 = .ok (.aload_n 0, 1) := by decide +kernel
theorem d_Mo_declare_36 : decode prog_8_method_3_code 36 = .ok (.getfield 25, 3) := by decide +kernel
theorem d_Mo_declare_39 : decode prog_8_method_3_code 39 = .ok (.iload_n 1, 1) := by decide +kernel
theorem d_Mo_declare_40 : decode prog_8_method_3_code 40 = .ok (.baload, 1) := by decide +kernel
theorem d_Mo_declare_41 : decode prog_8_method_3_code 41 = .ok (.ifCond .eq 5, 3) := by decide +kernel
theorem d_Mo_declare_44 : decode prog_8_method_3_code 44 = .ok (.iconst (-1), 1) := by decide +kernel
theorem d_Mo_declare_45 : decode prog_8_method_3_code 45 = .ok (.ireturn, 1) := by decide +kernel
theorem d_Mo_declare_46 : decode prog_8_method_3_code 46 = .ok (.aload_n 0, 1) := by decide +kernel
theorem d_Mo_declare_47 : decode prog_8_method_3_code 47 = .ok (.getfield 87, 3) := by decide +kernel
theorem d_Mo_declare_50 : decode prog_8_method_3_code 50 = .ok (.bipush 8, 2) := by decide +kernel
theorem d_Mo_declare_52 : decode prog_8_method_3_code 52 = .ok (.if_icmp .ne 6, 3) := by decide +kernel
theorem d_Mo_declare_55 : decode prog_8_method_3_code 55 = .ok (.bipush (-2), 2) := by decide +kernel
theorem d_Mo_declare_57 : decode prog_8_method_3_code 57 = .ok (.ireturn, 1) := by decide +kernel
theorem d_Mo_declare_58 : decode prog_8_method_3_code 58 = .ok (.aload_n 0, 1) := by decide +kernel
theorem d_Mo_declare_59 : decode prog_8_method_3_code 59 = .ok (.getfield 7, 3) := by decide +kernel
theorem d_Mo_declare_62 : decode prog_8_method_3_code 62 = .ok (.aload_n 0, 1) := by decide +kernel
theorem d_Mo_declare_63 : decode prog_8_method_3_code 63 = .ok (.getfield 87, 3) := by decide +kernel
theorem d_Mo_declare_66 : decode prog_8_method_3_code 66 = .ok (.iload_n 1, 1) := by decide +kernel
theorem d_Mo_declare_67 : decode prog_8_method_3_code 67 = .ok (.iastore, 1) := by decide +kernel
theorem d_Mo_declare_68 : decode prog_8_method_3_code 68 = .ok (.aload_n 0, 1) := by decide +kernel
theorem d_Mo_declare_69 : decode prog_8_method_3_code 69 = .ok (.getfield 25, 3) := by decide +kernel
theorem d_Mo_declare_72 : decode prog_8_method_3_code 72 = .ok (.aload_n 0, 1) := by decide +kernel
theorem d_Mo_declare_73 : decode prog_8_method_3_code 73 = .ok (.getfield 87, 3) := by decide +kernel
theorem d_Mo_declare_76 : decode prog_8_method_3_code 76 = .ok (.iload_n 2, 1) := by decide +kernel
theorem d_Mo_declare_77 : decode prog_8_method_3_code 77 = .ok (.bastore, 1) := by decide +kernel
theorem d_Mo_declare_78 : decode prog_8_method_3_code 78 = .ok (.aload_n 0, 1) := by decide +kernel
theorem d_Mo_declare_79 : decode prog_8_method_3_code 79 = .ok (.getfield 29, 3) := by decide +kernel
theorem d_Mo_declare_82 : decode prog_8_method_3_code 82 = .ok (.aload_n 0, 1) := by decide +kernel
theorem d_Mo_declare_83 : decode prog_8_method_3_code 83 = .ok (.getfield 87, 3) := by decide +kernel
theorem d_Mo_declare_86 : decode prog_8_method_3_code 86 = .ok (.iload_n 3, 1) := by decide +kernel
theorem d_Mo_declare_87 : decode prog_8_method_3_code 87 = .ok (.bastore, 1) := by decide +kernel
theorem d_Mo_declare_88 : decode prog_8_method_3_code 88 = .ok (.aload_n 0, 1) := by decide +kernel
theorem d_Mo_declare_89 : decode prog_8_method_3_code 89 = .ok (.getfield 13, 3) := by decide +kernel
theorem d_Mo_declare_92 : decode prog_8_method_3_code 92 = .ok (.aload_n 0, 1) := by decide +kernel
theorem d_Mo_declare_93 : decode prog_8_method_3_code 93 = .ok (.getfield 87, 3) := by decide +kernel
theorem d_Mo_declare_96 : decode prog_8_method_3_code 96 = .ok (.iload_n 3, 1) := by decide +kernel
theorem d_Mo_declare_97 : decode prog_8_method_3_code 97 = .ok (.ifCond .eq 8, 3) := by decide +kernel
theorem d_Mo_declare_100 : decode prog_8_method_3_code 100 = .ok (.iload 4, 2) := by decide +kernel
theorem d_Mo_declare_102 : decode prog_8_method_3_code 102 = .ok (.goto 4, 3) := by decide +kernel
theorem d_Mo_declare_105 : decode prog_8_method_3_code 105 = .ok (.iconst 0, 1) := by decide +kernel
theorem d_Mo_declare_106 : decode prog_8_method_3_code 106 = .ok (.iastore, 1) := by decide +kernel
theorem d_Mo_declare_107 : decode prog_8_method_3_code 107 = .ok (.aload_n 0, 1) := by decide +kernel
theorem d_Mo_declare_108 : decode prog_8_method_3_code 108 = .ok (.iconst 0, 1) := by decide +kernel
theorem d_Mo_declare_109 : decode prog_8_method_3_code 109 = .ok (.putfield 91, 3) := by decide +kernel
theorem d_Mo_declare_112 : decode prog_8_method_3_code 112 = .ok (.aload_n 0, 1) := by decide +kernel
theorem d_Mo_declare_113 : decode prog_8_method_3_code 113 = .ok (.dup, 1) := by decide +kernel
theorem d_Mo_declare_114 : decode prog_8_method_3_code 114 = .ok (.getfield 87, 3) := by decide +kernel
theorem d_Mo_declare_117 : decode prog_8_method_3_code 117 = .ok (.iconst 1, 1) := by decide +kernel
theorem d_Mo_declare_118 : decode prog_8_method_3_code 118 = .ok (.iadd, 1) := by decide +kernel
theorem d_Mo_declare_119 : decode prog_8_method_3_code 119 = .ok (.putfield 87, 3) := by decide +kernel
theorem d_Mo_declare_122 : decode prog_8_method_3_code 122 = .ok (.aload_n 0, 1) := by decide +kernel
theorem d_Mo_declare_123 : decode prog_8_method_3_code 123 = .ok (.getfield 87, 3) := by decide +kernel
theorem d_Mo_declare_126 : decode prog_8_method_3_code 126 = .ok (.iconst 1, 1) := by decide +kernel
theorem d_Mo_declare_127 : decode prog_8_method_3_code 127 = .ok (.isub, 1) := by decide +kernel
theorem d_Mo_declare_128 : decode prog_8_method_3_code 128 = .ok (.ireturn, 1) := by decide +kernel
def f_Mo_declare_J46 (M : cs_Mem) (j : Nat) (y1 : Int32) (y2 : Int32) (y3 : Int32) (y4 : Int32) : Int32 × cs_Mem :=
  if (M j 0) = 8 then
    ((-2), M)
  else
    cs_bd (cs_up M 63 (upd (M 63) (M j 0).toNatClampNeg y1)) fun (N11 : cs_Mem) =>
    cs_bd (cs_up N11 68 (upd (N11 68) (N11 j 0).toNatClampNeg (vp_nar .boolean y2))) fun (N13 : cs_Mem) =>
    cs_bd (cs_up N13 69 (upd (N13 69) (N13 j 0).toNatClampNeg (vp_nar .boolean y3))) fun (N15 : cs_Mem) =>
    if y3 = 0 then
      cs_bd (cs_up N15 64 (upd (N15 64) (N15 j 0).toNatClampNeg 0)) fun (N18 : cs_Mem) =>
      cs_bd (cs_up N18 j (upd (N18 j) 31 0)) fun (N19 : cs_Mem) =>
      cs_bd (cs_up N19 j (upd (N19 j) 0 ((N19 j 0) + 1))) fun (N21 : cs_Mem) =>
      ((N21 j 0) - 1, N21)
    else
      cs_bd (cs_up N15 64 (upd (N15 64) (N15 j 0).toNatClampNeg y4)) fun (N23 : cs_Mem) =>
      cs_bd (cs_up N23 j (upd (N23 j) 31 0)) fun (N24 : cs_Mem) =>
      cs_bd (cs_up N24 j (upd (N24 j) 0 ((N24 j 0) + 1))) fun (N26 : cs_Mem) =>
      ((N26 j 0) - 1, N26)
def pre_Mo_declare_J46 (M : cs_Mem) (j : Nat) (y1 : Int32) (y2 : Int32) (y3 : Int32) (y4 : Int32) : Prop :=
  ((M j 0) = 8 →
    True
  ) ∧ (¬ ((M j 0) = 8) →
    (vp_in (M j 0) (cs_ln M 63)) ∧
    cs_bd (cs_up M 63 (upd (M 63) (M j 0).toNatClampNeg y1)) fun (N11 : cs_Mem) =>
    (vp_in (N11 j 0) (cs_ln N11 68)) ∧
    cs_bd (cs_up N11 68 (upd (N11 68) (N11 j 0).toNatClampNeg (vp_nar .boolean y2))) fun (N13 : cs_Mem) =>
    (vp_in (N13 j 0) (cs_ln N13 69)) ∧
    cs_bd (cs_up N13 69 (upd (N13 69) (N13 j 0).toNatClampNeg (vp_nar .boolean y3))) fun (N15 : cs_Mem) =>
    (y3 = 0 →
      (vp_in (N15 j 0) (cs_ln N15 64)) ∧
      True
    ) ∧ (¬ (y3 = 0) →
      (vp_in (N15 j 0) (cs_ln N15 64)) ∧
      True
    )
  )
def f_Mo_declare_J31 (M : cs_Mem) (j : Nat) (y1 : Int32) (y2 : Int32) (y3 : Int32) (y4 : Int32) : Int32 × cs_Mem :=
  if y1 < 0 then
    f_Mo_declare_J46 M j y1 y2 y3 y4
  else
    if (M 68 y1.toNatClampNeg) = 0 then
      f_Mo_declare_J46 M j y1 y2 y3 y4
    else
      ((-1), M)
def pre_Mo_declare_J31 (M : cs_Mem) (j : Nat) (y1 : Int32) (y2 : Int32) (y3 : Int32) (y4 : Int32) : Prop :=
  (y1 < 0 →
    pre_Mo_declare_J46 M j y1 y2 y3 y4
  ) ∧ (¬ (y1 < 0) →
    (vp_in y1 (cs_ln M 68)) ∧
    ((M 68 y1.toNatClampNeg) = 0 →
      pre_Mo_declare_J46 M j y1 y2 y3 y4
    ) ∧ (¬ ((M 68 y1.toNatClampNeg) = 0) →
      True
    )
  )
def f_Mo_declare_J29 (M : cs_Mem)  : Int32 × cs_Mem :=
  ((-1), M)
def f_Mo_declare (M : cs_Mem) (j : Nat) (x1 : Int32) (x2 : Int32) (x3 : Int32) (x4 : Int32) : Int32 × cs_Mem :=
  if (M j 16) = 0 then
    if x1 < (-1) then
      f_Mo_declare_J29 M 
    else
      if (M j 0) ≤ x1 then
        f_Mo_declare_J29 M 
      else
        if x2 = 0 then
          f_Mo_declare_J31 M j x1 x2 x3 x4
        else
          if x1 = (-1) then
            f_Mo_declare_J31 M j x1 x2 x3 x4
          else
            f_Mo_declare_J29 M 
  else
    f_Mo_declare_J29 M 
def pre_Mo_declare (M : cs_Mem) (j : Nat) (x1 : Int32) (x2 : Int32) (x3 : Int32) (x4 : Int32) : Prop :=
  ((M j 16) = 0 →
    (x1 < (-1) →
      True
    ) ∧ (¬ (x1 < (-1)) →
      ((M j 0) ≤ x1 →
        True
      ) ∧ (¬ ((M j 0) ≤ x1) →
        (x2 = 0 →
          pre_Mo_declare_J31 M j x1 x2 x3 x4
        ) ∧ (¬ (x2 = 0) →
          (x1 = (-1) →
            pre_Mo_declare_J31 M j x1 x2 x3 x4
          ) ∧ (¬ (x1 = (-1)) →
            True
          )
        )
      )
    )
  ) ∧ (¬ ((M j 16) = 0) →
    True
  )
set_option maxHeartbeats 4000000 in
set_option maxRecDepth 100000 in
theorem w_Mo_declare_J46 {p : Program} {l : Launch} {e : Env} {s : State} {m : MethodId} {args : Array Value} {below : List Frame} {meth : Method} {c : Code} {D : va_G} {cA : Nat → ClassId} {A : Nat → Prop} {ad : Nat → Nat} {F : Int32 × cs_Mem} (hC : cs_Ctx p s m args c prog_8_method_3_code 5 "ClassStarterModel" D cA A) (hr : meth.sig.returnType = (some .int)) (hlk : meth.locks = false) : ∀ (M : cs_Mem) (j : Nat) (y1 : Int32) (y2 : Int32) (y3 : Int32) (y4 : Int32) (H : Heap) (locs : List Loc) (ls : Array Slot), cs_Wd D cA ad M A s H locs → lv_has ls 5 [(0, .ref (ad j)), (1, .int y1), (2, .int y2), (3, .int y3), (4, .int y4)] → cs_is 5 j → pre_Mo_declare_J46 M j y1 y2 y3 y4 → F = f_Mo_declare_J46 M j y1 y2 y3 y4 → W p l e ({ frames := 0, cells := 0, slots := 0, locals := 0 }) s m args below meth c H locs 0 0 (MQ below (cs_Qi D cA ad F A) args s 0 0 A) (F0 m 46 ls []) := by
  have hx := hC.1
  have hb := hC.2.1
  intro M j y1 y2 y3 y4 H locs ls hw hl g0 hp hf
  unfold f_Mo_declare_J46 at hf
  unfold pre_Mo_declare_J46 at hp
  refine lv_aload_n hx hb d_Mo_declare_46 rfl (lv_at hl 0 rfl) ?_
  refine gf_Mo_classes hC hw g0 wd_549 d_Mo_declare_47 ?_
  refine lv_bipush (v := 8) hx hb d_Mo_declare_50 (by decide) ?_
  refine lv_icmp_ne (tgt := 58) hx hb d_Mo_declare_52 (by decide) (fun c9 => ?_) (fun c9 => ?_)
  · have hp := hp.2 c9
    have hf := hf.trans (if_neg c9)
    refine lv_aload_n hx hb d_Mo_declare_58 rfl (lv_at hl 0 rfl) ?_
    refine gf_Mo_parent hC hw g0 wd_550 d_Mo_declare_59 ?_
    refine lv_aload_n hx hb d_Mo_declare_62 rfl (lv_at hl 0 rfl) ?_
    refine gf_Mo_classes hC hw g0 wd_549 d_Mo_declare_63 ?_
    refine lv_iload_n hx hb d_Mo_declare_66 rfl (lv_at hl 1 rfl) ?_
    have o10 := hp.1
    have hp := hp.2
    refine cs_iast hC hw is_63 o10 d_Mo_declare_67 (fun N11 H locs eN11 hw => ?_)
    have hp := cs_bdP eN11 hp
    have hf := cs_bdE eN11 hf
    refine lv_aload_n hx hb d_Mo_declare_68 rfl (lv_at hl 0 rfl) ?_
    refine gf_Mo_isInterface hC hw g0 wd_555 d_Mo_declare_69 ?_
    refine lv_aload_n hx hb d_Mo_declare_72 rfl (lv_at hl 0 rfl) ?_
    refine gf_Mo_classes hC hw g0 wd_549 d_Mo_declare_73 ?_
    refine lv_iload_n hx hb d_Mo_declare_76 rfl (lv_at hl 2 rfl) ?_
    have o12 := hp.1
    have hp := hp.2
    refine cs_zast hC hw is_68 o12 d_Mo_declare_77 (fun N13 H locs eN13 hw => ?_)
    have hp := cs_bdP eN13 hp
    have hf := cs_bdE eN13 hf
    refine lv_aload_n hx hb d_Mo_declare_78 rfl (lv_at hl 0 rfl) ?_
    refine gf_Mo_constant hC hw g0 wd_556 d_Mo_declare_79 ?_
    refine lv_aload_n hx hb d_Mo_declare_82 rfl (lv_at hl 0 rfl) ?_
    refine gf_Mo_classes hC hw g0 wd_549 d_Mo_declare_83 ?_
    refine lv_iload_n hx hb d_Mo_declare_86 rfl (lv_at hl 3 rfl) ?_
    have o14 := hp.1
    have hp := hp.2
    refine cs_zast hC hw is_69 o14 d_Mo_declare_87 (fun N15 H locs eN15 hw => ?_)
    have hp := cs_bdP eN15 hp
    have hf := cs_bdE eN15 hf
    refine lv_aload_n hx hb d_Mo_declare_88 rfl (lv_at hl 0 rfl) ?_
    refine gf_Mo_constants hC hw g0 wd_551 d_Mo_declare_89 ?_
    refine lv_aload_n hx hb d_Mo_declare_92 rfl (lv_at hl 0 rfl) ?_
    refine gf_Mo_classes hC hw g0 wd_549 d_Mo_declare_93 ?_
    refine lv_iload_n hx hb d_Mo_declare_96 rfl (lv_at hl 3 rfl) ?_
    refine lv_if_eq (tgt := 105) hx hb d_Mo_declare_97 (by decide) (fun c16 => ?_) (fun c16 => ?_)
    · have hp := hp.1 c16
      have hf := hf.trans (if_pos c16)
      refine lv_iconst (v := 0) hx hb d_Mo_declare_105 (by decide) ?_
      have o17 := hp.1
      have hp := hp.2
      refine cs_iast hC hw is_64 o17 d_Mo_declare_106 (fun N18 H locs eN18 hw => ?_)
      have hf := cs_bdE eN18 hf
      refine lv_aload_n hx hb d_Mo_declare_107 rfl (lv_at hl 0 rfl) ?_
      refine lv_iconst (v := 0) hx hb d_Mo_declare_108 (by decide) ?_
      refine pf_Mo_explored hC hw g0 wd_580 (Or.inl rfl) d_Mo_declare_109 (fun N19 H locs eN19 hw => ?_)
      have hf := cs_bdE eN19 hf
      refine lv_aload_n hx hb d_Mo_declare_112 rfl (lv_at hl 0 rfl) ?_
      refine lv_dup hx hb d_Mo_declare_113 rfl ?_
      refine gf_Mo_classes hC hw g0 wd_549 d_Mo_declare_114 ?_
      refine lv_iconst (v := 1) hx hb d_Mo_declare_117 (by decide) ?_
      refine lv_iadd hx hb d_Mo_declare_118 ?_
      refine pf_Mo_classes hC hw g0 wd_549 d_Mo_declare_119 (fun N21 H locs eN21 hw => ?_)
      have hf := cs_bdE eN21 hf
      refine lv_aload_n hx hb d_Mo_declare_122 rfl (lv_at hl 0 rfl) ?_
      refine gf_Mo_classes hC hw g0 wd_549 d_Mo_declare_123 ?_
      refine lv_iconst (v := 1) hx hb d_Mo_declare_126 (by decide) ?_
      refine lv_isub hx hb d_Mo_declare_127 ?_
      exact cs_iret hC hw hr hlk hf d_Mo_declare_128
    · have hp := hp.2 c16
      have hf := hf.trans (if_neg c16)
      refine lv_iload hx hb d_Mo_declare_100 (lv_at hl 4 rfl) ?_
      refine lv_goto (tgt := 106) hx hb d_Mo_declare_102 (by decide) ?_
      have o22 := hp.1
      have hp := hp.2
      refine cs_iast hC hw is_64 o22 d_Mo_declare_106 (fun N23 H locs eN23 hw => ?_)
      have hf := cs_bdE eN23 hf
      refine lv_aload_n hx hb d_Mo_declare_107 rfl (lv_at hl 0 rfl) ?_
      refine lv_iconst (v := 0) hx hb d_Mo_declare_108 (by decide) ?_
      refine pf_Mo_explored hC hw g0 wd_580 (Or.inl rfl) d_Mo_declare_109 (fun N24 H locs eN24 hw => ?_)
      have hf := cs_bdE eN24 hf
      refine lv_aload_n hx hb d_Mo_declare_112 rfl (lv_at hl 0 rfl) ?_
      refine lv_dup hx hb d_Mo_declare_113 rfl ?_
      refine gf_Mo_classes hC hw g0 wd_549 d_Mo_declare_114 ?_
      refine lv_iconst (v := 1) hx hb d_Mo_declare_117 (by decide) ?_
      refine lv_iadd hx hb d_Mo_declare_118 ?_
      refine pf_Mo_classes hC hw g0 wd_549 d_Mo_declare_119 (fun N26 H locs eN26 hw => ?_)
      have hf := cs_bdE eN26 hf
      refine lv_aload_n hx hb d_Mo_declare_122 rfl (lv_at hl 0 rfl) ?_
      refine gf_Mo_classes hC hw g0 wd_549 d_Mo_declare_123 ?_
      refine lv_iconst (v := 1) hx hb d_Mo_declare_126 (by decide) ?_
      refine lv_isub hx hb d_Mo_declare_127 ?_
      exact cs_iret hC hw hr hlk hf d_Mo_declare_128
  · have hp := hp.1 c9
    have hf := hf.trans (if_pos c9)
    refine lv_bipush (v := (-2)) hx hb d_Mo_declare_55 (by decide) ?_
    exact cs_iret hC hw hr hlk hf d_Mo_declare_57
set_option maxHeartbeats 4000000 in
set_option maxRecDepth 100000 in
theorem w_Mo_declare_J31 {p : Program} {l : Launch} {e : Env} {s : State} {m : MethodId} {args : Array Value} {below : List Frame} {meth : Method} {c : Code} {D : va_G} {cA : Nat → ClassId} {A : Nat → Prop} {ad : Nat → Nat} {F : Int32 × cs_Mem} (hC : cs_Ctx p s m args c prog_8_method_3_code 5 "ClassStarterModel" D cA A) (hr : meth.sig.returnType = (some .int)) (hlk : meth.locks = false) : ∀ (M : cs_Mem) (j : Nat) (y1 : Int32) (y2 : Int32) (y3 : Int32) (y4 : Int32) (H : Heap) (locs : List Loc) (ls : Array Slot), cs_Wd D cA ad M A s H locs → lv_has ls 5 [(0, .ref (ad j)), (1, .int y1), (2, .int y2), (3, .int y3), (4, .int y4)] → cs_is 5 j → pre_Mo_declare_J31 M j y1 y2 y3 y4 → F = f_Mo_declare_J31 M j y1 y2 y3 y4 → W p l e ({ frames := 0, cells := 0, slots := 0, locals := 0 }) s m args below meth c H locs 0 0 (MQ below (cs_Qi D cA ad F A) args s 0 0 A) (F0 m 31 ls []) := by
  have hx := hC.1
  have hb := hC.2.1
  intro M j y1 y2 y3 y4 H locs ls hw hl g0 hp hf
  unfold f_Mo_declare_J31 at hf
  unfold pre_Mo_declare_J31 at hp
  refine lv_iload_n hx hb d_Mo_declare_31 rfl (lv_at hl 1 rfl) ?_
  refine lv_if_lt (tgt := 46) hx hb d_Mo_declare_32 (by decide) (fun c6 => ?_) (fun c6 => ?_)
  · have hp := hp.1 c6
    have hf := hf.trans (if_pos c6)
    exact w_Mo_declare_J46 hC hr hlk M j y1 y2 y3 y4 _ _ ls hw (lv_sub hl [0, 1, 2, 3, 4] rfl) g0 hp hf
  · have hp := hp.2 c6
    have hf := hf.trans (if_neg c6)
    refine lv_aload_n hx hb d_Mo_declare_35 rfl (lv_at hl 0 rfl) ?_
    refine gf_Mo_isInterface hC hw g0 wd_555 d_Mo_declare_36 ?_
    refine lv_iload_n hx hb d_Mo_declare_39 rfl (lv_at hl 1 rfl) ?_
    have o7 := hp.1
    have hp := hp.2
    refine cs_zald hC hw is_68 o7 d_Mo_declare_40 ?_
    refine lv_if_eq (tgt := 46) hx hb d_Mo_declare_41 (by decide) (fun c8 => ?_) (fun c8 => ?_)
    · have hp := hp.1 c8
      have hf := hf.trans (if_pos c8)
      exact w_Mo_declare_J46 hC hr hlk M j y1 y2 y3 y4 _ _ ls hw (lv_sub hl [0, 1, 2, 3, 4] rfl) g0 hp hf
    · have hp := hp.2 c8
      have hf := hf.trans (if_neg c8)
      refine lv_iconst (v := (-1)) hx hb d_Mo_declare_44 (by decide) ?_
      exact cs_iret hC hw hr hlk hf d_Mo_declare_45
set_option maxHeartbeats 4000000 in
set_option maxRecDepth 100000 in
theorem w_Mo_declare_J29 {p : Program} {l : Launch} {e : Env} {s : State} {m : MethodId} {args : Array Value} {below : List Frame} {meth : Method} {c : Code} {D : va_G} {cA : Nat → ClassId} {A : Nat → Prop} {ad : Nat → Nat} {F : Int32 × cs_Mem} (hC : cs_Ctx p s m args c prog_8_method_3_code 5 "ClassStarterModel" D cA A) (hr : meth.sig.returnType = (some .int)) (hlk : meth.locks = false) : ∀ (M : cs_Mem) (H : Heap) (locs : List Loc) (ls : Array Slot), cs_Wd D cA ad M A s H locs → lv_has ls 5 [] → F = f_Mo_declare_J29 M  → W p l e ({ frames := 0, cells := 0, slots := 0, locals := 0 }) s m args below meth c H locs 0 0 (MQ below (cs_Qi D cA ad F A) args s 0 0 A) (F0 m 29 ls []) := by
  have hx := hC.1
  have hb := hC.2.1
  intro M  H locs ls hw hl  hf
  unfold f_Mo_declare_J29 at hf
  refine lv_iconst (v := (-1)) hx hb d_Mo_declare_29 (by decide) ?_
  exact cs_iret hC hw hr hlk hf d_Mo_declare_30
set_option maxHeartbeats 4000000 in
set_option maxRecDepth 100000 in
theorem c_Mo_declare (l : Launch) (D : va_G) (cA : Nat → ClassId) (ad : Nat → Nat) (M : cs_Mem) (j : Nat) (hj : cs_is 5 j) (x1 : Int32) (x2 : Int32) (x3 : Int32) (x4 : Int32) (hp : pre_Mo_declare M j x1 x2 x3 x4) : cs_Ci l ⟨"ClassStarterModel", "declare", "(IZZI)I"⟩ prog_8_method_3_code 5 (some .int) ({ frames := 0, cells := 0, slots := 0, locals := 0 }) D cA ad M [.ref (ad j), .int x1, .int x2, .int x3, .int x4] (f_Mo_declare M j x1 x2 x3 x4) := by
  refine cs_entry (by decide) (Nat.le_of_ble_eq_true rfl) (fun p e s m below meth c A ls hC hr hlk _ hw hl => ?_)
  have hx := hC.1
  have hb := hC.2.1
  have hl : lv_has ls 5 [(0, .ref (ad j)), (1, .int x1), (2, .int x2), (3, .int x3), (4, .int x4)] := hl
  generalize hF : f_Mo_declare M j x1 x2 x3 x4 = F
  have hf := hF.symm
  unfold f_Mo_declare at hf
  unfold pre_Mo_declare at hp
  refine lv_aload_n hx hb d_Mo_declare_0 rfl (lv_at hl 0 rfl) ?_
  refine gf_Mo_begun hC hw hj wd_565 d_Mo_declare_1 ?_
  refine lv_if_ne (tgt := 29) hx hb d_Mo_declare_4 (by decide) (fun c1 => ?_) (fun c1 => ?_)
  · have hp := hp.2 c1
    have hf := hf.trans (if_neg c1)
    exact w_Mo_declare_J29 hC hr hlk M  _ _ ls hw (lv_sub hl [] rfl) hf
  · have hp := hp.1 c1
    have hf := hf.trans (if_pos c1)
    refine lv_iload_n hx hb d_Mo_declare_7 rfl (lv_at hl 1 rfl) ?_
    refine lv_iconst (v := (-1)) hx hb d_Mo_declare_8 (by decide) ?_
    refine lv_icmp_lt (tgt := 29) hx hb d_Mo_declare_9 (by decide) (fun c2 => ?_) (fun c2 => ?_)
    · have hp := hp.1 c2
      have hf := hf.trans (if_pos c2)
      exact w_Mo_declare_J29 hC hr hlk M  _ _ ls hw (lv_sub hl [] rfl) hf
    · have hp := hp.2 c2
      have hf := hf.trans (if_neg c2)
      refine lv_iload_n hx hb d_Mo_declare_12 rfl (lv_at hl 1 rfl) ?_
      refine lv_aload_n hx hb d_Mo_declare_13 rfl (lv_at hl 0 rfl) ?_
      refine gf_Mo_classes hC hw hj wd_549 d_Mo_declare_14 ?_
      refine lv_icmp_ge (tgt := 29) hx hb d_Mo_declare_17 (by decide) (fun c3 => ?_) (fun c3 => ?_)
      · have hp := hp.1 c3
        have hf := hf.trans (if_pos c3)
        exact w_Mo_declare_J29 hC hr hlk M  _ _ ls hw (lv_sub hl [] rfl) hf
      · have hp := hp.2 c3
        have hf := hf.trans (if_neg c3)
        refine lv_iload_n hx hb d_Mo_declare_20 rfl (lv_at hl 2 rfl) ?_
        refine lv_if_eq (tgt := 31) hx hb d_Mo_declare_21 (by decide) (fun c4 => ?_) (fun c4 => ?_)
        · have hp := hp.1 c4
          have hf := hf.trans (if_pos c4)
          exact w_Mo_declare_J31 hC hr hlk M j x1 x2 x3 x4 _ _ ls hw (lv_sub hl [0, 1, 2, 3, 4] rfl) hj hp hf
        · have hp := hp.2 c4
          have hf := hf.trans (if_neg c4)
          refine lv_iload_n hx hb d_Mo_declare_24 rfl (lv_at hl 1 rfl) ?_
          refine lv_iconst (v := (-1)) hx hb d_Mo_declare_25 (by decide) ?_
          refine lv_icmp_eq (tgt := 31) hx hb d_Mo_declare_26 (by decide) (fun c5 => ?_) (fun c5 => ?_)
          · have hp := hp.1 c5
            have hf := hf.trans (if_pos c5)
            exact w_Mo_declare_J31 hC hr hlk M j x1 x2 x3 x4 _ _ ls hw (lv_sub hl [0, 1, 2, 3, 4] rfl) hj hp hf
          · have hp := hp.2 c5
            have hf := hf.trans (if_neg c5)
            exact w_Mo_declare_J29 hC hr hlk M  _ _ ls hw (lv_sub hl [] rfl) hf
theorem d_Mo_inherit_0 : decode prog_8_method_4_code 0 = .ok (.aload_n 0, 1) := by decide +kernel
theorem d_Mo_inherit_1 : decode prog_8_method_4_code 1 = .ok (.getfield 83, 3) := by decide +kernel
theorem d_Mo_inherit_4 : decode prog_8_method_4_code 4 = .ok (.ifCond .ne 40, 3) := by decide +kernel
theorem d_Mo_inherit_7 : decode prog_8_method_4_code 7 = .ok (.iload_n 1, 1) := by decide +kernel
theorem d_Mo_inherit_8 : decode prog_8_method_4_code 8 = .ok (.aload_n 0, 1) := by decide +kernel
theorem d_Mo_inherit_9 : decode prog_8_method_4_code 9 = .ok (.getfield 87, 3) := by decide +kernel
theorem d_Mo_inherit_12 : decode prog_8_method_4_code 12 = .ok (.invokestatic 94, 3) := by decide +kernel
theorem d_Mo_inherit_15 : decode prog_8_method_4_code 15 = .ok (.ifCond .ne 29, 3) := by decide +kernel
theorem d_Mo_inherit_18 : decode prog_8_method_4_code 18 = .ok (.aload_n 0, 1) := by decide +kernel
theorem d_Mo_inherit_19 : decode prog_8_method_4_code 19 = .ok (.getfield 25, 3) := by decide +kernel
theorem d_Mo_inherit_22 : decode prog_8_method_4_code 22 = .ok (.iload_n 1, 1) := by decide +kernel
theorem d_Mo_inherit_23 : decode prog_8_method_4_code 23 = .ok (.baload, 1) := by decide +kernel
theorem d_Mo_inherit_24 : decode prog_8_method_4_code 24 = .ok (.ifCond .ne 20, 3) := by decide +kernel
theorem d_Mo_inherit_27 : decode prog_8_method_4_code 27 = .ok (.iload_n 2, 1) := by decide +kernel
theorem d_Mo_inherit_28 : decode prog_8_method_4_code 28 = .ok (.iload_n 1, 1) := by decide +kernel
theorem d_Mo_inherit_29 : decode prog_8_method_4_code 29 = .ok (.invokestatic 94, 3) := by decide +kernel
theorem d_Mo_inherit_32 : decode prog_8_method_4_code 32 = .ok (.ifCond .ne 12, 3) := by decide +kernel
theorem d_Mo_inherit_35 : decode prog_8_method_4_code 35 = .ok (.aload_n 0, 1) := by decide +kernel
theorem d_Mo_inherit_36 : decode prog_8_method_4_code 36 = .ok (.getfield 25, 3) := by decide +kernel
theorem d_Mo_inherit_39 : decode prog_8_method_4_code 39 = .ok (.iload_n 2, 1) := by decide +kernel
theorem d_Mo_inherit_40 : decode prog_8_method_4_code 40 = .ok (.baload, 1) := by decide +kernel
theorem d_Mo_inherit_41 : decode prog_8_method_4_code 41 = .ok (.ifCond .ne 5, 3) := by decide +kernel
theorem d_Mo_inherit_44 : decode prog_8_method_4_code 44 = .ok (.iconst (-1), 1) := by decide +kernel
theorem d_Mo_inherit_45 : decode prog_8_method_4_code 45 = .ok (.ireturn, 1) := by decide +kernel
theorem d_Mo_inherit_46 : decode prog_8_method_4_code 46 = .ok (.aload_n 0, 1) := by decide +kernel
theorem d_Mo_inherit_47 : decode prog_8_method_4_code 47 = .ok (.getfield 16, 3) := by decide +kernel
theorem d_Mo_inherit_50 : decode prog_8_method_4_code 50 = .ok (.iload_n 1, 1) := by decide +kernel
theorem d_Mo_inherit_51 : decode prog_8_method_4_code 51 = .ok (.iaload, 1) := by decide +kernel
theorem d_Mo_inherit_52 : decode prog_8_method_4_code 52 = .ok (.istore 4, 2) := by decide +kernel
theorem d_Mo_inherit_54 : decode prog_8_method_4_code 54 = .ok (.iconst 0, 1) := by decide +kernel
theorem d_Mo_inherit_55 : decode prog_8_method_4_code 55 = .ok (.istore 5, 2) := by decide +kernel
theorem d_Mo_inherit_57 : decode prog_8_method_4_code 57 = .ok (.iload 5, 2) := by decide +kernel
theorem d_Mo_inherit_59 : decode prog_8_method_4_code 59 = .ok (.iload 4, 2) := by decide +kernel
theorem d_Mo_inherit_61 : decode prog_8_method_4_code 61 = .ok (.if_icmp .ge 26, 3) := by decide +kernel
theorem d_Mo_inherit_64 : decode prog_8_method_4_code 64 = .ok (.aload_n 0, 1) := by decide +kernel
theorem d_Mo_inherit_65 : decode prog_8_method_4_code 65 = .ok (.getfield 32, 3) := by decide +kernel
theorem d_Mo_inherit_68 : decode prog_8_method_4_code 68 = .ok (.iconst 2, 1) := by decide +kernel
theorem d_Mo_inherit_69 : decode prog_8_method_4_code 69 = .ok (.iload_n 1, 1) := by decide +kernel
theorem d_Mo_inherit_70 : decode prog_8_method_4_code 70 = .ok (.imul, 1) := by decide +kernel
theorem d_Mo_inherit_71 : decode prog_8_method_4_code 71 = .ok (.iload 5, 2) := by decide +kernel
theorem d_Mo_inherit_73 : decode prog_8_method_4_code 73 = .ok (.iadd, 1) := by decide +kernel
theorem d_Mo_inherit_74 : decode prog_8_method_4_code 74 = .ok (.iaload, 1) := by decide +kernel
theorem d_Mo_inherit_75 : decode prog_8_method_4_code 75 = .ok (.iload_n 2, 1) := by decide +kernel
theorem d_Mo_inherit_76 : decode prog_8_method_4_code 76 = .ok (.if_icmp .ne 5, 3) := by decide +kernel
theorem d_Mo_inherit_79 : decode prog_8_method_4_code 79 = .ok (.iconst (-1), 1) := by decide +kernel
theorem d_Mo_inherit_80 : decode prog_8_method_4_code 80 = .ok (.ireturn, 1) := by decide +kernel
theorem d_Mo_inherit_81 : decode prog_8_method_4_code 81 = .ok (.iinc 5 1, 3) := by decide +kernel
theorem d_Mo_inherit_84 : decode prog_8_method_4_code 84 = .ok (.goto (-27), 3) := by decide +kernel
theorem d_Mo_inherit_87 : decode prog_8_method_4_code 87 = .ok (.iload 4, 2) := by decide +kernel
theorem d_Mo_inherit_89 : decode prog_8_method_4_code 89 = .ok (.iconst 2, 1) := by decide +kernel
theorem d_Mo_inherit_90 : decode prog_8_method_4_code 90 = .ok (.if_icmp .ne 6, 3) := by decide +kernel
theorem d_Mo_inherit_93 : decode prog_8_method_4_code 93 = .ok (.bipush (-2), 2) := by decide +kernel
theorem d_Mo_inherit_95 : decode prog_8_method_4_code 95 = .ok (.ireturn, 1) := by decide +kernel
theorem d_Mo_inherit_96 : decode prog_8_method_4_code 96 = .ok (.aload_n 0, 1) := by decide +kernel
theorem d_Mo_inherit_97 : decode prog_8_method_4_code 97 = .ok (.getfield 32, 3) := by decide +kernel
theorem d_Mo_inherit_100 : decode prog_8_method_4_code 100 = .ok (.iconst 2, 1) := by decide +kernel
theorem d_Mo_inherit_101 : decode prog_8_method_4_code 101 = .ok (.iload_n 1, 1) := by decide +kernel
theorem d_Mo_inherit_102 : decode prog_8_method_4_code 102 = .ok (.imul, 1) := by decide +kernel
theorem d_Mo_inherit_103 : decode prog_8_method_4_code 103 = .ok (.iload 4, 2) := by decide +kernel
theorem d_Mo_inherit_105 : decode prog_8_method_4_code 105 = .ok (.iadd, 1) := by decide +kernel
theorem d_Mo_inherit_106 : decode prog_8_method_4_code 106 = .ok (.iload_n 2, 1) := by decide +kernel
theorem d_Mo_inherit_107 : decode prog_8_method_4_code 107 = .ok (.iastore, 1) := by decide +kernel
theorem d_Mo_inherit_108 : decode prog_8_method_4_code 108 = .ok (.aload_n 0, 1) := by decide +kernel
theorem d_Mo_inherit_109 : decode prog_8_method_4_code 109 = .ok (.getfield 35, 3) := by decide +kernel
theorem d_Mo_inherit_112 : decode prog_8_method_4_code 112 = .ok (.iconst 2, 1) := by decide +kernel
theorem d_Mo_inherit_113 : decode prog_8_method_4_code 113 = .ok (.iload_n 1, 1) := by decide +kernel
theorem d_Mo_inherit_114 : decode prog_8_method_4_code 114 = .ok (.imul, 1) := by decide +kernel
theorem d_Mo_inherit_115 : decode prog_8_method_4_code 115 = .ok (.iload 4, 2) := by decide +kernel
theorem d_Mo_inherit_117 : decode prog_8_method_4_code 117 = .ok (.iadd, 1) := by decide +kernel
theorem d_Mo_inherit_118 : decode prog_8_method_4_code 118 = .ok (.iload_n 3, 1) := by decide +kernel
theorem d_Mo_inherit_119 : decode prog_8_method_4_code 119 = .ok (.bastore, 1) := by decide +kernel
theorem d_Mo_inherit_120 : decode prog_8_method_4_code 120 = .ok (.aload_n 0, 1) := by decide +kernel
theorem d_Mo_inherit_121 : decode prog_8_method_4_code 121 = .ok (.getfield 16, 3) := by decide +kernel
theorem d_Mo_inherit_124 : decode prog_8_method_4_code 124 = .ok (.iload_n 1, 1) := by decide +kernel
theorem d_Mo_inherit_125 : decode prog_8_method_4_code 125 = .ok (.dup2, 1) := by decide +kernel
theorem d_Mo_inherit_126 : decode prog_8_method_4_code 126 = .ok (.iaload, 1) := by decide +kernel
theorem d_Mo_inherit_127 : decode prog_8_method_4_code 127 = .ok (.iconst 1, 1) := by decide +kernel
theorem d_Mo_inherit_128 : decode prog_8_method_4_code 128 = .ok (.iadd, 1) := by decide +kernel
theorem d_Mo_inherit_129 : decode prog_8_method_4_code 129 = .ok (.iastore, 1) := by decide +kernel
theorem d_Mo_inherit_130 : decode prog_8_method_4_code 130 = .ok (.aload_n 0, 1) := by decide +kernel
theorem d_Mo_inherit_131 : decode prog_8_method_4_code 131 = .ok (.iconst 0, 1) := by decide +kernel
theorem d_Mo_inherit_132 : decode prog_8_method_4_code 132 = .ok (.putfield 91, 3) := by decide +kernel
theorem d_Mo_inherit_135 : decode prog_8_method_4_code 135 = .ok (.iload 4, 2) := by decide +kernel
theorem d_Mo_inherit_137 : decode prog_8_method_4_code 137 = .ok (.iconst 1, 1) := by decide +kernel
theorem d_Mo_inherit_138 : decode prog_8_method_4_code 138 = .ok (.iadd, 1) := by decide +kernel
theorem d_Mo_inherit_139 : decode prog_8_method_4_code 139 = .ok (.ireturn, 1) := by decide +kernel
def f_Mo_inherit_L57 : Nat → cs_Mem → Nat → Int32 → Int32 → Int32 → Int32 → Int32 → Int32 × cs_Mem
  | 0, M, j, y1, y2, y3, y4, y5 => (0, M)
  | fuel + 1, M, j, y1, y2, y3, y4, y5 =>
    if y4 ≤ y5 then
      if y4 = 2 then
        ((-2), M)
      else
        cs_bd (cs_up M 70 (upd (M 70) ((2 * y1) + y4).toNatClampNeg y2)) fun (N15 : cs_Mem) =>
        cs_bd (cs_up N15 71 (upd (N15 71) ((2 * y1) + y4).toNatClampNeg (vp_nar .boolean y3))) fun (N17 : cs_Mem) =>
        cs_bd (cs_up N17 65 (upd (N17 65) y1.toNatClampNeg ((N17 65 y1.toNatClampNeg) + 1))) fun (N20 : cs_Mem) =>
        cs_bd (cs_up N20 j (upd (N20 j) 31 0)) fun (N21 : cs_Mem) =>
        (y4 + 1, N21)
    else
      if (M 70 ((2 * y1) + y5).toNatClampNeg) = y2 then
        ((-1), M)
      else
        cs_bd (y5 + 1) fun (z25 : Int32) =>
        f_Mo_inherit_L57 fuel M j y1 y2 y3 y4 z25
def pre_Mo_inherit_L57 : Nat → cs_Mem → Nat → Int32 → Int32 → Int32 → Int32 → Int32 → Prop
  | 0, _, _, _, _, _, _, _ => False
  | fuel + 1, M, j, y1, y2, y3, y4, y5 =>
    (y4 ≤ y5 →
      (y4 = 2 →
        True
      ) ∧ (¬ (y4 = 2) →
        (vp_in ((2 * y1) + y4) (cs_ln M 70)) ∧
        cs_bd (cs_up M 70 (upd (M 70) ((2 * y1) + y4).toNatClampNeg y2)) fun (N15 : cs_Mem) =>
        (vp_in ((2 * y1) + y4) (cs_ln N15 71)) ∧
        cs_bd (cs_up N15 71 (upd (N15 71) ((2 * y1) + y4).toNatClampNeg (vp_nar .boolean y3))) fun (N17 : cs_Mem) =>
        (vp_in y1 (cs_ln N17 65)) ∧
        (vp_in y1 (cs_ln N17 65)) ∧
        True
      )
    ) ∧ (¬ (y4 ≤ y5) →
      (vp_in ((2 * y1) + y5) (cs_ln M 70)) ∧
      ((M 70 ((2 * y1) + y5).toNatClampNeg) = y2 →
        True
      ) ∧ (¬ ((M 70 ((2 * y1) + y5).toNatClampNeg) = y2) →
        cs_bd (y5 + 1) fun (z25 : Int32) =>
        pre_Mo_inherit_L57 fuel M j y1 y2 y3 y4 z25
      )
    )
def f_Mo_inherit_J44 (M : cs_Mem)  : Int32 × cs_Mem :=
  ((-1), M)
def f_Mo_inherit (M : cs_Mem) (j : Nat) (x1 : Int32) (x2 : Int32) (x3 : Int32) : Int32 × cs_Mem :=
  if (M j 16) = 0 then
    cs_bd (f_Mo_out M x1 (M j 0)) fun (r2 : Int32) =>
    if r2 = 0 then
      if (M 68 x1.toNatClampNeg) = 0 then
        cs_bd (f_Mo_out M x2 x1) fun (r6 : Int32) =>
        if r6 = 0 then
          if (M 68 x2.toNatClampNeg) = 0 then
            f_Mo_inherit_J44 M 
          else
            cs_bd (M 65 x1.toNatClampNeg) fun (z11 : Int32) =>
            f_Mo_inherit_L57 10 M j x1 x2 x3 z11 0
        else
          f_Mo_inherit_J44 M 
      else
        f_Mo_inherit_J44 M 
    else
      f_Mo_inherit_J44 M 
  else
    f_Mo_inherit_J44 M 
def pre_Mo_inherit (M : cs_Mem) (j : Nat) (x1 : Int32) (x2 : Int32) (x3 : Int32) : Prop :=
  ((M j 16) = 0 →
    cs_bd (f_Mo_out M x1 (M j 0)) fun (r2 : Int32) =>
    (r2 = 0 →
      (vp_in x1 (cs_ln M 68)) ∧
      ((M 68 x1.toNatClampNeg) = 0 →
        cs_bd (f_Mo_out M x2 x1) fun (r6 : Int32) =>
        (r6 = 0 →
          (vp_in x2 (cs_ln M 68)) ∧
          ((M 68 x2.toNatClampNeg) = 0 →
            True
          ) ∧ (¬ ((M 68 x2.toNatClampNeg) = 0) →
            (vp_in x1 (cs_ln M 65)) ∧
            cs_bd (M 65 x1.toNatClampNeg) fun (z11 : Int32) =>
            pre_Mo_inherit_L57 10 M j x1 x2 x3 z11 0
          )
        ) ∧ (¬ (r6 = 0) →
          True
        )
      ) ∧ (¬ ((M 68 x1.toNatClampNeg) = 0) →
        True
      )
    ) ∧ (¬ (r2 = 0) →
      True
    )
  ) ∧ (¬ ((M j 16) = 0) →
    True
  )
set_option maxHeartbeats 4000000 in
set_option maxRecDepth 100000 in
theorem w_Mo_inherit_L57 {p : Program} {l : Launch} {e : Env} {s : State} {m : MethodId} {args : Array Value} {below : List Frame} {meth : Method} {c : Code} {D : va_G} {cA : Nat → ClassId} {A : Nat → Prop} {ad : Nat → Nat} {F : Int32 × cs_Mem} (hC : cs_Ctx p s m args c prog_8_method_4_code 6 "ClassStarterModel" D cA A) (hr : meth.sig.returnType = (some .int)) (hlk : meth.locks = false) (fuel : Nat) : ∀ (M : cs_Mem) (j : Nat) (y1 : Int32) (y2 : Int32) (y3 : Int32) (y4 : Int32) (y5 : Int32) (H : Heap) (locs : List Loc) (ls : Array Slot), cs_Wd D cA ad M A s H locs → lv_has ls 6 [(0, .ref (ad j)), (1, .int y1), (2, .int y2), (3, .int y3), (4, .int y4), (5, .int y5)] → cs_is 5 j → pre_Mo_inherit_L57 fuel M j y1 y2 y3 y4 y5 → F = f_Mo_inherit_L57 fuel M j y1 y2 y3 y4 y5 → W p l e ({ frames := 1, cells := 0, slots := 0, locals := 21 }) s m args below meth c H locs 0 0 (MQ below (cs_Qi D cA ad F A) args s 0 0 A) (F0 m 57 ls []) := by
  have hx := hC.1
  have hb := hC.2.1
  induction fuel with
  | zero =>
    intro M j y1 y2 y3 y4 y5 H locs ls hw hl g0 hp hf
    exact absurd hp (by simp [pre_Mo_inherit_L57])
  | succ fuel ih =>
    intro M j y1 y2 y3 y4 y5 H locs ls hw hl g0 hp hf
    rw [f_Mo_inherit_L57] at hf
    rw [pre_Mo_inherit_L57] at hp
    refine lv_iload hx hb d_Mo_inherit_57 (lv_at hl 5 rfl) ?_
    refine lv_iload hx hb d_Mo_inherit_59 (lv_at hl 4 rfl) ?_
    refine lv_icmp_ge (tgt := 87) hx hb d_Mo_inherit_61 (by decide) (fun c12 => ?_) (fun c12 => ?_)
    · have hp := hp.1 c12
      have hf := hf.trans (if_pos c12)
      refine lv_iload hx hb d_Mo_inherit_87 (lv_at hl 4 rfl) ?_
      refine lv_iconst (v := 2) hx hb d_Mo_inherit_89 (by decide) ?_
      refine lv_icmp_ne (tgt := 96) hx hb d_Mo_inherit_90 (by decide) (fun c13 => ?_) (fun c13 => ?_)
      · have hp := hp.2 c13
        have hf := hf.trans (if_neg c13)
        refine lv_aload_n hx hb d_Mo_inherit_96 rfl (lv_at hl 0 rfl) ?_
        refine gf_Mo_iface hC hw g0 wd_557 d_Mo_inherit_97 ?_
        refine lv_iconst (v := 2) hx hb d_Mo_inherit_100 (by decide) ?_
        refine lv_iload_n hx hb d_Mo_inherit_101 rfl (lv_at hl 1 rfl) ?_
        refine lv_imul hx hb d_Mo_inherit_102 ?_
        refine lv_iload hx hb d_Mo_inherit_103 (lv_at hl 4 rfl) ?_
        refine lv_iadd hx hb d_Mo_inherit_105 ?_
        refine lv_iload_n hx hb d_Mo_inherit_106 rfl (lv_at hl 2 rfl) ?_
        have o14 := hp.1
        have hp := hp.2
        refine cs_iast hC hw is_70 o14 d_Mo_inherit_107 (fun N15 H locs eN15 hw => ?_)
        have hp := cs_bdP eN15 hp
        have hf := cs_bdE eN15 hf
        refine lv_aload_n hx hb d_Mo_inherit_108 rfl (lv_at hl 0 rfl) ?_
        refine gf_Mo_defaulted hC hw g0 wd_558 d_Mo_inherit_109 ?_
        refine lv_iconst (v := 2) hx hb d_Mo_inherit_112 (by decide) ?_
        refine lv_iload_n hx hb d_Mo_inherit_113 rfl (lv_at hl 1 rfl) ?_
        refine lv_imul hx hb d_Mo_inherit_114 ?_
        refine lv_iload hx hb d_Mo_inherit_115 (lv_at hl 4 rfl) ?_
        refine lv_iadd hx hb d_Mo_inherit_117 ?_
        refine lv_iload_n hx hb d_Mo_inherit_118 rfl (lv_at hl 3 rfl) ?_
        have o16 := hp.1
        have hp := hp.2
        refine cs_zast hC hw is_71 o16 d_Mo_inherit_119 (fun N17 H locs eN17 hw => ?_)
        have hp := cs_bdP eN17 hp
        have hf := cs_bdE eN17 hf
        refine lv_aload_n hx hb d_Mo_inherit_120 rfl (lv_at hl 0 rfl) ?_
        refine gf_Mo_interfaces hC hw g0 wd_552 d_Mo_inherit_121 ?_
        refine lv_iload_n hx hb d_Mo_inherit_124 rfl (lv_at hl 1 rfl) ?_
        refine lv_dup2_11 hx hb d_Mo_inherit_125 rfl rfl ?_
        have o18 := hp.1
        have hp := hp.2
        refine cs_iald hC hw is_65 o18 d_Mo_inherit_126 ?_
        refine lv_iconst (v := 1) hx hb d_Mo_inherit_127 (by decide) ?_
        refine lv_iadd hx hb d_Mo_inherit_128 ?_
        have o19 := hp.1
        have hp := hp.2
        refine cs_iast hC hw is_65 o19 d_Mo_inherit_129 (fun N20 H locs eN20 hw => ?_)
        have hf := cs_bdE eN20 hf
        refine lv_aload_n hx hb d_Mo_inherit_130 rfl (lv_at hl 0 rfl) ?_
        refine lv_iconst (v := 0) hx hb d_Mo_inherit_131 (by decide) ?_
        refine pf_Mo_explored hC hw g0 wd_580 (Or.inl rfl) d_Mo_inherit_132 (fun N21 H locs eN21 hw => ?_)
        have hf := cs_bdE eN21 hf
        refine lv_iload hx hb d_Mo_inherit_135 (lv_at hl 4 rfl) ?_
        refine lv_iconst (v := 1) hx hb d_Mo_inherit_137 (by decide) ?_
        refine lv_iadd hx hb d_Mo_inherit_138 ?_
        exact cs_iret hC hw hr hlk hf d_Mo_inherit_139
      · have hp := hp.1 c13
        have hf := hf.trans (if_pos c13)
        refine lv_bipush (v := (-2)) hx hb d_Mo_inherit_93 (by decide) ?_
        exact cs_iret hC hw hr hlk hf d_Mo_inherit_95
    · have hp := hp.2 c12
      have hf := hf.trans (if_neg c12)
      refine lv_aload_n hx hb d_Mo_inherit_64 rfl (lv_at hl 0 rfl) ?_
      refine gf_Mo_iface hC hw g0 wd_557 d_Mo_inherit_65 ?_
      refine lv_iconst (v := 2) hx hb d_Mo_inherit_68 (by decide) ?_
      refine lv_iload_n hx hb d_Mo_inherit_69 rfl (lv_at hl 1 rfl) ?_
      refine lv_imul hx hb d_Mo_inherit_70 ?_
      refine lv_iload hx hb d_Mo_inherit_71 (lv_at hl 5 rfl) ?_
      refine lv_iadd hx hb d_Mo_inherit_73 ?_
      have o23 := hp.1
      have hp := hp.2
      refine cs_iald hC hw is_70 o23 d_Mo_inherit_74 ?_
      refine lv_iload_n hx hb d_Mo_inherit_75 rfl (lv_at hl 2 rfl) ?_
      refine lv_icmp_ne (tgt := 81) hx hb d_Mo_inherit_76 (by decide) (fun c24 => ?_) (fun c24 => ?_)
      · have hp := hp.2 c24
        have hf := hf.trans (if_neg c24)
        obtain ⟨z25, ez25⟩ : ∃ y : Int32, y = y5 + 1 := ⟨_, rfl⟩
        have hp := cs_bdP ez25 hp
        have hf := cs_bdE ez25 hf
        refine lv_iinc (v := z25) (lv' := [(5, .int z25), (0, .ref (ad j)), (1, .int y1), (2, .int y2), (3, .int y3), (4, .int y4)]) hx hb d_Mo_inherit_81 hl (k := 5) rfl (by rw [ez25]; rfl) (by decide) rfl (fun ls hl => ?_)
        refine lv_goto (tgt := 57) hx hb d_Mo_inherit_84 (by decide) ?_
        exact ih M j y1 y2 y3 y4 z25 _ _ ls hw (lv_sub hl [1, 2, 3, 4, 5, 0] rfl) g0 hp hf
      · have hp := hp.1 c24
        have hf := hf.trans (if_pos c24)
        refine lv_iconst (v := (-1)) hx hb d_Mo_inherit_79 (by decide) ?_
        exact cs_iret hC hw hr hlk hf d_Mo_inherit_80
set_option maxHeartbeats 4000000 in
set_option maxRecDepth 100000 in
theorem w_Mo_inherit_J44 {p : Program} {l : Launch} {e : Env} {s : State} {m : MethodId} {args : Array Value} {below : List Frame} {meth : Method} {c : Code} {D : va_G} {cA : Nat → ClassId} {A : Nat → Prop} {ad : Nat → Nat} {F : Int32 × cs_Mem} (hC : cs_Ctx p s m args c prog_8_method_4_code 6 "ClassStarterModel" D cA A) (hr : meth.sig.returnType = (some .int)) (hlk : meth.locks = false) : ∀ (M : cs_Mem) (H : Heap) (locs : List Loc) (ls : Array Slot), cs_Wd D cA ad M A s H locs → lv_has ls 6 [] → F = f_Mo_inherit_J44 M  → W p l e ({ frames := 1, cells := 0, slots := 0, locals := 21 }) s m args below meth c H locs 0 0 (MQ below (cs_Qi D cA ad F A) args s 0 0 A) (F0 m 44 ls []) := by
  have hx := hC.1
  have hb := hC.2.1
  intro M  H locs ls hw hl  hf
  unfold f_Mo_inherit_J44 at hf
  refine lv_iconst (v := (-1)) hx hb d_Mo_inherit_44 (by decide) ?_
  exact cs_iret hC hw hr hlk hf d_Mo_inherit_45
set_option maxHeartbeats 4000000 in
set_option maxRecDepth 100000 in
theorem c_Mo_inherit (l : Launch) (D : va_G) (cA : Nat → ClassId) (ad : Nat → Nat) (M : cs_Mem) (j : Nat) (hj : cs_is 5 j) (x1 : Int32) (x2 : Int32) (x3 : Int32) (hp : pre_Mo_inherit M j x1 x2 x3) : cs_Ci l ⟨"ClassStarterModel", "inherit", "(IIZ)I"⟩ prog_8_method_4_code 6 (some .int) ({ frames := 1, cells := 0, slots := 0, locals := 21 }) D cA ad M [.ref (ad j), .int x1, .int x2, .int x3] (f_Mo_inherit M j x1 x2 x3) := by
  refine cs_entry (by decide) (Nat.le_of_ble_eq_true rfl) (fun p e s m below meth c A ls hC hr hlk _ hw hl => ?_)
  have hx := hC.1
  have hb := hC.2.1
  have hl : lv_has ls 6 [(0, .ref (ad j)), (1, .int x1), (2, .int x2), (3, .int x3)] := hl
  generalize hF : f_Mo_inherit M j x1 x2 x3 = F
  have hf := hF.symm
  unfold f_Mo_inherit at hf
  unfold pre_Mo_inherit at hp
  refine lv_aload_n hx hb d_Mo_inherit_0 rfl (lv_at hl 0 rfl) ?_
  refine gf_Mo_begun hC hw hj wd_565 d_Mo_inherit_1 ?_
  refine lv_if_ne (tgt := 44) hx hb d_Mo_inherit_4 (by decide) (fun c1 => ?_) (fun c1 => ?_)
  · have hp := hp.2 c1
    have hf := hf.trans (if_neg c1)
    exact w_Mo_inherit_J44 hC hr hlk M  _ _ ls hw (lv_sub hl [] rfl) hf
  · have hp := hp.1 c1
    have hf := hf.trans (if_pos c1)
    refine lv_iload_n hx hb d_Mo_inherit_7 rfl (lv_at hl 1 rfl) ?_
    refine lv_aload_n hx hb d_Mo_inherit_8 rfl (lv_at hl 0 rfl) ?_
    refine gf_Mo_classes hC hw hj wd_549 d_Mo_inherit_9 ?_
    refine cs_ret_p hC hw (cs_runS (As := [.int x1, .int (M j 0)]) (rest := []) hC hw (c_Mo_out l D cA ad M x1 (M j 0) _) rfl rfl cw_Mo_94 ⟨Nat.le_of_ble_eq_true rfl, Nat.le_of_ble_eq_true rfl⟩ hl.1 rfl rfl (Nat.le_of_ble_eq_true rfl) d_Mo_inherit_12 ⟨Nat.zero_le _, Nat.zero_le _⟩) (fun r2 H locs er2 hw => ?_)
    have hp := cs_bdP er2 hp
    have hf := cs_bdE er2 hf
    refine lv_if_ne (tgt := 44) hx hb d_Mo_inherit_15 (by decide) (fun c3 => ?_) (fun c3 => ?_)
    · have hp := hp.2 c3
      have hf := hf.trans (if_neg c3)
      exact w_Mo_inherit_J44 hC hr hlk M  _ _ ls hw (lv_sub hl [] rfl) hf
    · have hp := hp.1 c3
      have hf := hf.trans (if_pos c3)
      refine lv_aload_n hx hb d_Mo_inherit_18 rfl (lv_at hl 0 rfl) ?_
      refine gf_Mo_isInterface hC hw hj wd_555 d_Mo_inherit_19 ?_
      refine lv_iload_n hx hb d_Mo_inherit_22 rfl (lv_at hl 1 rfl) ?_
      have o4 := hp.1
      have hp := hp.2
      refine cs_zald hC hw is_68 o4 d_Mo_inherit_23 ?_
      refine lv_if_ne (tgt := 44) hx hb d_Mo_inherit_24 (by decide) (fun c5 => ?_) (fun c5 => ?_)
      · have hp := hp.2 c5
        have hf := hf.trans (if_neg c5)
        exact w_Mo_inherit_J44 hC hr hlk M  _ _ ls hw (lv_sub hl [] rfl) hf
      · have hp := hp.1 c5
        have hf := hf.trans (if_pos c5)
        refine lv_iload_n hx hb d_Mo_inherit_27 rfl (lv_at hl 2 rfl) ?_
        refine lv_iload_n hx hb d_Mo_inherit_28 rfl (lv_at hl 1 rfl) ?_
        refine cs_ret_p hC hw (cs_runS (As := [.int x2, .int x1]) (rest := []) hC hw (c_Mo_out l D cA ad M x2 x1 _) rfl rfl cw_Mo_94 ⟨Nat.le_of_ble_eq_true rfl, Nat.le_of_ble_eq_true rfl⟩ hl.1 rfl rfl (Nat.le_of_ble_eq_true rfl) d_Mo_inherit_29 ⟨Nat.zero_le _, Nat.zero_le _⟩) (fun r6 H locs er6 hw => ?_)
        have hp := cs_bdP er6 hp
        have hf := cs_bdE er6 hf
        refine lv_if_ne (tgt := 44) hx hb d_Mo_inherit_32 (by decide) (fun c7 => ?_) (fun c7 => ?_)
        · have hp := hp.2 c7
          have hf := hf.trans (if_neg c7)
          exact w_Mo_inherit_J44 hC hr hlk M  _ _ ls hw (lv_sub hl [] rfl) hf
        · have hp := hp.1 c7
          have hf := hf.trans (if_pos c7)
          refine lv_aload_n hx hb d_Mo_inherit_35 rfl (lv_at hl 0 rfl) ?_
          refine gf_Mo_isInterface hC hw hj wd_555 d_Mo_inherit_36 ?_
          refine lv_iload_n hx hb d_Mo_inherit_39 rfl (lv_at hl 2 rfl) ?_
          have o8 := hp.1
          have hp := hp.2
          refine cs_zald hC hw is_68 o8 d_Mo_inherit_40 ?_
          refine lv_if_ne (tgt := 46) hx hb d_Mo_inherit_41 (by decide) (fun c9 => ?_) (fun c9 => ?_)
          · have hp := hp.2 c9
            have hf := hf.trans (if_neg c9)
            refine lv_aload_n hx hb d_Mo_inherit_46 rfl (lv_at hl 0 rfl) ?_
            refine gf_Mo_interfaces hC hw hj wd_552 d_Mo_inherit_47 ?_
            refine lv_iload_n hx hb d_Mo_inherit_50 rfl (lv_at hl 1 rfl) ?_
            have o10 := hp.1
            have hp := hp.2
            refine cs_iald hC hw is_65 o10 d_Mo_inherit_51 ?_
            refine lv_topi (fun z11 ez11 => ?_)
            have hp := cs_bdP ez11 hp
            have hf := cs_bdE ez11 hf
            refine lv_istore (lv' := [(4, .int z11), (0, .ref (ad j)), (1, .int x1), (2, .int x2), (3, .int x3)]) hx hb d_Mo_inherit_52 hl (by decide) rfl (fun ls hl => ?_)
            refine lv_iconst (v := 0) hx hb d_Mo_inherit_54 (by decide) ?_
            refine lv_istore (lv' := [(5, .int 0), (4, .int z11), (0, .ref (ad j)), (1, .int x1), (2, .int x2), (3, .int x3)]) hx hb d_Mo_inherit_55 hl (by decide) rfl (fun ls hl => ?_)
            exact w_Mo_inherit_L57 hC hr hlk 10 M j x1 x2 x3 z11 0 _ _ ls hw (lv_sub hl [2, 3, 4, 5, 1, 0] rfl) hj hp hf
          · have hp := hp.1 c9
            have hf := hf.trans (if_pos c9)
            exact w_Mo_inherit_J44 hC hr hlk M  _ _ ls hw (lv_sub hl [] rfl) hf
theorem d_Mo_badOperands_0 : decode prog_8_method_5_code 0 = .ok (.iload_n 0, 1) := by decide +kernel
theorem d_Mo_badOperands_1 : decode prog_8_method_5_code 1 = .ok (.ifCond .ne 10, 3) := by decide +kernel
theorem d_Mo_badOperands_4 : decode prog_8_method_5_code 4 = .ok (.iload_n 1, 1) := by decide +kernel
theorem d_Mo_badOperands_5 : decode prog_8_method_5_code 5 = .ok (.bipush 8, 2) := by decide +kernel
theorem d_Mo_badOperands_7 : decode prog_8_method_5_code 7 = .ok (.invokestatic 94, 3) := by decide +kernel
theorem d_Mo_badOperands_10 : decode prog_8_method_5_code 10 = .ok (.ireturn, 1) := by decide +kernel
theorem d_Mo_badOperands_11 : decode prog_8_method_5_code 11 = .ok (.iload_n 0, 1) := by decide +kernel
theorem d_Mo_badOperands_12 : decode prog_8_method_5_code 12 = .ok (.iconst 3, 1) := by decide +kernel
theorem d_Mo_badOperands_13 : decode prog_8_method_5_code 13 = .ok (.if_icmp .eq 8, 3) := by decide +kernel
theorem d_Mo_badOperands_16 : decode prog_8_method_5_code 16 = .ok (.iload_n 0, 1) := by decide +kernel
theorem d_Mo_badOperands_17 : decode prog_8_method_5_code 17 = .ok (.iconst 4, 1) := by decide +kernel
theorem d_Mo_badOperands_18 : decode prog_8_method_5_code 18 = .ok (.if_icmp .ne 10, 3) := by decide +kernel
theorem d_Mo_badOperands_21 : decode prog_8_method_5_code 21 = .ok (.iload_n 1, 1) := by decide +kernel
theorem d_Mo_badOperands_22 : decode prog_8_method_5_code 22 = .ok (.bipush 10, 2) := by decide +kernel
theorem d_Mo_badOperands_24 : decode prog_8_method_5_code 24 = .ok (.invokestatic 94, 3) := by decide +kernel
theorem d_Mo_badOperands_27 : decode prog_8_method_5_code 27 = .ok (.ireturn, 1) := by decide +kernel
theorem d_Mo_badOperands_28 : decode prog_8_method_5_code 28 = .ok (.iload_n 0, 1) := by decide +kernel
theorem d_Mo_badOperands_29 : decode prog_8_method_5_code 29 = .ok (.iconst 2, 1) := by decide +kernel
theorem d_Mo_badOperands_30 : decode prog_8_method_5_code 30 = .ok (.if_icmp .ne 24, 3) := by decide +kernel
theorem d_Mo_badOperands_33 : decode prog_8_method_5_code 33 = .ok (.iload_n 1, 1) := by decide +kernel
theorem d_Mo_badOperands_34 : decode prog_8_method_5_code 34 = .ok (.iconst 2, 1) := by decide +kernel
theorem d_Mo_badOperands_35 : decode prog_8_method_5_code 35 = .ok (.invokestatic 94, 3) := by decide +kernel
theorem d_Mo_badOperands_38 : decode prog_8_method_5_code 38 = .ok (.ifCond .ne 12, 3) := by decide +kernel
theorem d_Mo_badOperands_41 : decode prog_8_method_5_code 41 = .ok (.iload_n 2, 1) := by decide +kernel
theorem d_Mo_badOperands_42 : decode prog_8_method_5_code 42 = .ok (.bipush 8, 2) := by decide +kernel
theorem d_Mo_badOperands_44 : decode prog_8_method_5_code 44 = .ok (.invokestatic 94, 3) := by decide +kernel
theorem d_Mo_badOperands_47 : decode prog_8_method_5_code 47 = .ok (.ifCond .eq 7, 3) := by decide +kernel
theorem d_Mo_badOperands_50 : decode prog_8_method_5_code 50 = .ok (.iconst 1, 1) := by decide +kernel
theorem d_Mo_badOperands_51 : decode prog_8_method_5_code 51 = .ok (.goto 4, 3) := by decide +kernel
theorem d_Mo_badOperands_54 : decode prog_8_method_5_code 54 = .ok (.iconst 0, 1) := by decide +kernel
theorem d_Mo_badOperands_55 : decode prog_8_method_5_code 55 = .ok (.ireturn, 1) := by decide +kernel
def f_Mo_badOperands_J21 (M : cs_Mem) (y1 : Int32) : Int32 :=
  cs_bd (f_Mo_out M y1 10) fun (r11 : Int32) =>
  r11
def pre_Mo_badOperands_J21 (M : cs_Mem) (y1 : Int32) : Prop :=
  cs_bd (f_Mo_out M y1 10) fun (r11 : Int32) =>
  (r11 = 0 ∨ r11 = 1) ∧
  True
def f_Mo_badOperands (M : cs_Mem) (x0 : Int32) (x1 : Int32) (x2 : Int32) : Int32 :=
  if x0 = 0 then
    cs_bd (f_Mo_out M x1 8) fun (r9 : Int32) =>
    r9
  else
    if x0 = 3 then
      f_Mo_badOperands_J21 M x1
    else
      if x0 = 4 then
        f_Mo_badOperands_J21 M x1
      else
        if x0 = 2 then
          cs_bd (f_Mo_out M x1 2) fun (r5 : Int32) =>
          if r5 = 0 then
            cs_bd (f_Mo_out M x2 8) fun (r7 : Int32) =>
            if r7 = 0 then
              0
            else
              1
          else
            1
        else
          0
def pre_Mo_badOperands (M : cs_Mem) (x0 : Int32) (x1 : Int32) (x2 : Int32) : Prop :=
  (x0 = 0 →
    cs_bd (f_Mo_out M x1 8) fun (r9 : Int32) =>
    (r9 = 0 ∨ r9 = 1) ∧
    True
  ) ∧ (¬ (x0 = 0) →
    (x0 = 3 →
      pre_Mo_badOperands_J21 M x1
    ) ∧ (¬ (x0 = 3) →
      (x0 = 4 →
        pre_Mo_badOperands_J21 M x1
      ) ∧ (¬ (x0 = 4) →
        True
      )
    )
  )
set_option maxHeartbeats 4000000 in
set_option maxRecDepth 100000 in
theorem w_Mo_badOperands_J21 {p : Program} {l : Launch} {e : Env} {s : State} {m : MethodId} {args : Array Value} {below : List Frame} {meth : Method} {c : Code} {D : va_G} {cA : Nat → ClassId} {A : Nat → Prop} {ad : Nat → Nat} {F : Int32} (hC : cs_Ctx p s m args c prog_8_method_5_code 3 "ClassStarterModel" D cA A) (hr : meth.sig.returnType = (some .boolean)) (hlk : meth.locks = false) : ∀ (M : cs_Mem) (y1 : Int32) (H : Heap) (locs : List Loc) (ls : Array Slot), cs_Wd D cA ad M A s H locs → lv_has ls 3 [(1, .int y1)] → pre_Mo_badOperands_J21 M y1 → F = f_Mo_badOperands_J21 M y1 → W p l e ({ frames := 1, cells := 0, slots := 0, locals := 21 }) s m args below meth c H locs 0 0 (MQ below (cs_Qi D cA ad (F, M) A) args s 0 0 A) (F0 m 21 ls []) := by
  have hx := hC.1
  have hb := hC.2.1
  intro M y1 H locs ls hw hl  hp hf
  unfold f_Mo_badOperands_J21 at hf
  unfold pre_Mo_badOperands_J21 at hp
  refine lv_iload_n hx hb d_Mo_badOperands_21 rfl (lv_at hl 0 rfl) ?_
  refine lv_bipush (v := 10) hx hb d_Mo_badOperands_22 (by decide) ?_
  refine cs_ret_p hC hw (cs_runS (As := [.int y1, .int 10]) (rest := []) hC hw (c_Mo_out l D cA ad M y1 10 _) rfl rfl cw_Mo_94 ⟨Nat.le_of_ble_eq_true rfl, Nat.le_of_ble_eq_true rfl⟩ hl.1 rfl rfl (Nat.le_of_ble_eq_true rfl) d_Mo_badOperands_24 ⟨Nat.zero_le _, Nat.zero_le _⟩) (fun r11 H locs er11 hw => ?_)
  have hp := cs_bdP er11 hp
  have hf := cs_bdE er11 hf
  have o12 := hp.1
  have hp := hp.2
  exact cs_zret hC hw hr hlk o12 (congrArg (fun z => (z, M)) hf) d_Mo_badOperands_27
set_option maxHeartbeats 4000000 in
set_option maxRecDepth 100000 in
theorem c_Mo_badOperands (l : Launch) (D : va_G) (cA : Nat → ClassId) (ad : Nat → Nat) (M : cs_Mem) (x0 : Int32) (x1 : Int32) (x2 : Int32) (hp : pre_Mo_badOperands M x0 x1 x2) : cs_Ci l ⟨"ClassStarterModel", "badOperands", "(III)Z"⟩ prog_8_method_5_code 3 (some .boolean) ({ frames := 1, cells := 0, slots := 0, locals := 21 }) D cA ad M [.int x0, .int x1, .int x2] ((f_Mo_badOperands M x0 x1 x2, M)) := by
  refine cs_entry (by decide) (Nat.le_of_ble_eq_true rfl) (fun p e s m below meth c A ls hC hr hlk _ hw hl => ?_)
  have hx := hC.1
  have hb := hC.2.1
  have hl : lv_has ls 3 [(0, .int x0), (1, .int x1), (2, .int x2)] := hl
  generalize hF : f_Mo_badOperands M x0 x1 x2 = F
  have hf := hF.symm
  unfold f_Mo_badOperands at hf
  unfold pre_Mo_badOperands at hp
  refine lv_iload_n hx hb d_Mo_badOperands_0 rfl (lv_at hl 0 rfl) ?_
  refine lv_if_ne (tgt := 11) hx hb d_Mo_badOperands_1 (by decide) (fun c1 => ?_) (fun c1 => ?_)
  · have hp := hp.2 c1
    have hf := hf.trans (if_neg c1)
    refine lv_iload_n hx hb d_Mo_badOperands_11 rfl (lv_at hl 0 rfl) ?_
    refine lv_iconst (v := 3) hx hb d_Mo_badOperands_12 (by decide) ?_
    refine lv_icmp_eq (tgt := 21) hx hb d_Mo_badOperands_13 (by decide) (fun c2 => ?_) (fun c2 => ?_)
    · have hp := hp.1 c2
      have hf := hf.trans (if_pos c2)
      exact w_Mo_badOperands_J21 hC hr hlk M x1 _ _ ls hw (lv_sub hl [1] rfl) hp hf
    · have hp := hp.2 c2
      have hf := hf.trans (if_neg c2)
      refine lv_iload_n hx hb d_Mo_badOperands_16 rfl (lv_at hl 0 rfl) ?_
      refine lv_iconst (v := 4) hx hb d_Mo_badOperands_17 (by decide) ?_
      refine lv_icmp_ne (tgt := 28) hx hb d_Mo_badOperands_18 (by decide) (fun c3 => ?_) (fun c3 => ?_)
      · have hp := hp.2 c3
        have hf := hf.trans (if_neg c3)
        refine lv_iload_n hx hb d_Mo_badOperands_28 rfl (lv_at hl 0 rfl) ?_
        refine lv_iconst (v := 2) hx hb d_Mo_badOperands_29 (by decide) ?_
        refine lv_icmp_ne (tgt := 54) hx hb d_Mo_badOperands_30 (by decide) (fun c4 => ?_) (fun c4 => ?_)
        · have hf := hf.trans (if_neg c4)
          refine lv_iconst (v := 0) hx hb d_Mo_badOperands_54 (by decide) ?_
          exact cs_zret hC hw hr hlk (Or.inl rfl) (congrArg (fun z => (z, M)) hf) d_Mo_badOperands_55
        · have hf := hf.trans (if_pos c4)
          refine lv_iload_n hx hb d_Mo_badOperands_33 rfl (lv_at hl 1 rfl) ?_
          refine lv_iconst (v := 2) hx hb d_Mo_badOperands_34 (by decide) ?_
          refine cs_ret_p hC hw (cs_runS (As := [.int x1, .int 2]) (rest := []) hC hw (c_Mo_out l D cA ad M x1 2 _) rfl rfl cw_Mo_94 ⟨Nat.le_of_ble_eq_true rfl, Nat.le_of_ble_eq_true rfl⟩ hl.1 rfl rfl (Nat.le_of_ble_eq_true rfl) d_Mo_badOperands_35 ⟨Nat.zero_le _, Nat.zero_le _⟩) (fun r5 H locs er5 hw => ?_)
          have hf := cs_bdE er5 hf
          refine lv_if_ne (tgt := 50) hx hb d_Mo_badOperands_38 (by decide) (fun c6 => ?_) (fun c6 => ?_)
          · have hf := hf.trans (if_neg c6)
            refine lv_iconst (v := 1) hx hb d_Mo_badOperands_50 (by decide) ?_
            refine lv_goto (tgt := 55) hx hb d_Mo_badOperands_51 (by decide) ?_
            exact cs_zret hC hw hr hlk (Or.inr rfl) (congrArg (fun z => (z, M)) hf) d_Mo_badOperands_55
          · have hf := hf.trans (if_pos c6)
            refine lv_iload_n hx hb d_Mo_badOperands_41 rfl (lv_at hl 2 rfl) ?_
            refine lv_bipush (v := 8) hx hb d_Mo_badOperands_42 (by decide) ?_
            refine cs_ret_p hC hw (cs_runS (As := [.int x2, .int 8]) (rest := []) hC hw (c_Mo_out l D cA ad M x2 8 _) rfl rfl cw_Mo_94 ⟨Nat.le_of_ble_eq_true rfl, Nat.le_of_ble_eq_true rfl⟩ hl.1 rfl rfl (Nat.le_of_ble_eq_true rfl) d_Mo_badOperands_44 ⟨Nat.zero_le _, Nat.zero_le _⟩) (fun r7 H locs er7 hw => ?_)
            have hf := cs_bdE er7 hf
            refine lv_if_eq (tgt := 54) hx hb d_Mo_badOperands_47 (by decide) (fun c8 => ?_) (fun c8 => ?_)
            · have hf := hf.trans (if_pos c8)
              refine lv_iconst (v := 0) hx hb d_Mo_badOperands_54 (by decide) ?_
              exact cs_zret hC hw hr hlk (Or.inl rfl) (congrArg (fun z => (z, M)) hf) d_Mo_badOperands_55
            · have hf := hf.trans (if_neg c8)
              refine lv_iconst (v := 1) hx hb d_Mo_badOperands_50 (by decide) ?_
              refine lv_goto (tgt := 55) hx hb d_Mo_badOperands_51 (by decide) ?_
              exact cs_zret hC hw hr hlk (Or.inr rfl) (congrArg (fun z => (z, M)) hf) d_Mo_badOperands_55
      · have hp := hp.1 c3
        have hf := hf.trans (if_pos c3)
        exact w_Mo_badOperands_J21 hC hr hlk M x1 _ _ ls hw (lv_sub hl [1] rfl) hp hf
  · have hp := hp.1 c1
    have hf := hf.trans (if_pos c1)
    refine lv_iload_n hx hb d_Mo_badOperands_4 rfl (lv_at hl 1 rfl) ?_
    refine lv_bipush (v := 8) hx hb d_Mo_badOperands_5 (by decide) ?_
    refine cs_ret_p hC hw (cs_runS (As := [.int x1, .int 8]) (rest := []) hC hw (c_Mo_out l D cA ad M x1 8 _) rfl rfl cw_Mo_94 ⟨Nat.le_of_ble_eq_true rfl, Nat.le_of_ble_eq_true rfl⟩ hl.1 rfl rfl (Nat.le_of_ble_eq_true rfl) d_Mo_badOperands_7 ⟨Nat.zero_le _, Nat.zero_le _⟩) (fun r9 H locs er9 hw => ?_)
    have hp := cs_bdP er9 hp
    have hf := cs_bdE er9 hf
    have o10 := hp.1
    have hp := hp.2
    exact cs_zret hC hw hr hlk o10 (congrArg (fun z => (z, M)) hf) d_Mo_badOperands_10
theorem d_Mo_act_0 : decode prog_8_method_6_code 0 = .ok (.aload_n 0, 1) := by decide +kernel
theorem d_Mo_act_1 : decode prog_8_method_6_code 1 = .ok (.getfield 83, 3) := by decide +kernel
theorem d_Mo_act_4 : decode prog_8_method_6_code 4 = .ok (.ifCond .ne 33, 3) := by decide +kernel
theorem d_Mo_act_7 : decode prog_8_method_6_code 7 = .ok (.iload_n 1, 1) := by decide +kernel
theorem d_Mo_act_8 : decode prog_8_method_6_code 8 = .ok (.aload_n 0, 1) := by decide +kernel
theorem d_Mo_act_9 : decode prog_8_method_6_code 9 = .ok (.getfield 87, 3) := by decide +kernel
theorem d_Mo_act_12 : decode prog_8_method_6_code 12 = .ok (.invokestatic 94, 3) := by decide +kernel
theorem d_Mo_act_15 : decode prog_8_method_6_code 15 = .ok (.ifCond .ne 22, 3) := by decide +kernel
theorem d_Mo_act_18 : decode prog_8_method_6_code 18 = .ok (.iload_n 2, 1) := by decide +kernel
theorem d_Mo_act_19 : decode prog_8_method_6_code 19 = .ok (.bipush 7, 2) := by decide +kernel
theorem d_Mo_act_21 : decode prog_8_method_6_code 21 = .ok (.invokestatic 94, 3) := by decide +kernel
theorem d_Mo_act_24 : decode prog_8_method_6_code 24 = .ok (.ifCond .ne 13, 3) := by decide +kernel
theorem d_Mo_act_27 : decode prog_8_method_6_code 27 = .ok (.iload_n 2, 1) := by decide +kernel
theorem d_Mo_act_28 : decode prog_8_method_6_code 28 = .ok (.iload_n 3, 1) := by decide +kernel
theorem d_Mo_act_29 : decode prog_8_method_6_code 29 = .ok (.iload 4, 2) := by decide +kernel
theorem d_Mo_act_31 : decode prog_8_method_6_code 31 = .ok (.invokestatic 98, 3) := by decide +kernel
theorem d_Mo_act_34 : decode prog_8_method_6_code 34 = .ok (.ifCond .eq 5, 3) := by decide +kernel
theorem d_Mo_act_37 : decode prog_8_method_6_code 37 = .ok (.iconst (-1), 1) := by decide +kernel
theorem d_Mo_act_38 : decode prog_8_method_6_code 38 = .ok (.ireturn, 1) := by decide +kernel
theorem d_Mo_act_39 : decode prog_8_method_6_code 39 = .ok (.aload_n 0, 1) := by decide +kernel
theorem d_Mo_act_40 : decode prog_8_method_6_code 40 = .ok (.getfield 22, 3) := by decide +kernel
theorem d_Mo_act_43 : decode prog_8_method_6_code 43 = .ok (.iload_n 1, 1) := by decide +kernel
theorem d_Mo_act_44 : decode prog_8_method_6_code 44 = .ok (.iaload, 1) := by decide +kernel
theorem d_Mo_act_45 : decode prog_8_method_6_code 45 = .ok (.istore 5, 2) := by decide +kernel
theorem d_Mo_act_47 : decode prog_8_method_6_code 47 = .ok (.iload 5, 2) := by decide +kernel
theorem d_Mo_act_49 : decode prog_8_method_6_code 49 = .ok (.iconst 5, 1) := by decide +kernel
theorem d_Mo_act_50 : decode prog_8_method_6_code 50 = .ok (.if_icmp .ne 6, 3) := by decide +kernel
theorem d_Mo_act_53 : decode prog_8_method_6_code 53 = .ok (.bipush (-2), 2) := by decide +kernel
theorem d_Mo_act_55 : decode prog_8_method_6_code 55 = .ok (.ireturn, 1) := by decide +kernel
theorem d_Mo_act_56 : decode prog_8_method_6_code 56 = .ok (.aload_n 0, 1) := by decide +kernel
theorem d_Mo_act_57 : decode prog_8_method_6_code 57 = .ok (.getfield 38, 3) := by decide +kernel
theorem d_Mo_act_60 : decode prog_8_method_6_code 60 = .ok (.iconst 5, 1) := by decide +kernel
theorem d_Mo_act_61 : decode prog_8_method_6_code 61 = .ok (.iload_n 1, 1) := by decide +kernel
theorem d_Mo_act_62 : decode prog_8_method_6_code 62 = .ok (.imul, 1) := by decide +kernel
theorem d_Mo_act_63 : decode prog_8_method_6_code 63 = .ok (.iload 5, 2) := by decide +kernel
theorem d_Mo_act_65 : decode prog_8_method_6_code 65 = .ok (.iadd, 1) := by decide +kernel
theorem d_Mo_act_66 : decode prog_8_method_6_code 66 = .ok (.iload_n 2, 1) := by decide +kernel
theorem d_Mo_act_67 : decode prog_8_method_6_code 67 = .ok (.iastore, 1) := by decide +kernel
theorem d_Mo_act_68 : decode prog_8_method_6_code 68 = .ok (.aload_n 0, 1) := by decide +kernel
theorem d_Mo_act_69 : decode prog_8_method_6_code 69 = .ok (.getfield 41, 3) := by decide +kernel
theorem d_Mo_act_72 : decode prog_8_method_6_code 72 = .ok (.iconst 5, 1) := by decide +kernel
theorem d_Mo_act_73 : decode prog_8_method_6_code 73 = .ok (.iload_n 1, 1) := by decide +kernel
theorem d_Mo_act_74 : decode prog_8_method_6_code 74 = .ok (.imul, 1) := by decide +kernel
theorem d_Mo_act_75 : decode prog_8_method_6_code 75 = .ok (.iload 5, 2) := by decide +kernel
theorem d_Mo_act_77 : decode prog_8_method_6_code 77 = .ok (.iadd, 1) := by decide +kernel
theorem d_Mo_act_78 : decode prog_8_method_6_code 78 = .ok (.iload_n 3, 1) := by decide +kernel
theorem d_Mo_act_79 : decode prog_8_method_6_code 79 = .ok (.iastore, 1) := by decide +kernel
theorem d_Mo_act_80 : decode prog_8_method_6_code 80 = .ok (.aload_n 0, 1) := by decide +kernel
theorem d_Mo_act_81 : decode prog_8_method_6_code 81 = .ok (.getfield 44, 3) := by decide +kernel
theorem d_Mo_act_84 : decode prog_8_method_6_code 84 = .ok (.iconst 5, 1) := by decide +kernel
theorem d_Mo_act_85 : decode prog_8_method_6_code 85 = .ok (.iload_n 1, 1) := by decide +kernel
theorem d_Mo_act_86 : decode prog_8_method_6_code 86 = .ok (.imul, 1) := by decide +kernel
theorem d_Mo_act_87 : decode prog_8_method_6_code 87 = .ok (.iload 5, 2) := by decide +kernel
theorem d_Mo_act_89 : decode prog_8_method_6_code 89 = .ok (.iadd, 1) := by decide +kernel
theorem d_Mo_act_90 : decode prog_8_method_6_code 90 = .ok (.iload 4, 2) := by decide +kernel
theorem d_Mo_act_92 : decode prog_8_method_6_code 92 = .ok (.iastore, 1) := by decide +kernel
theorem d_Mo_act_93 : decode prog_8_method_6_code 93 = .ok (.aload_n 0, 1) := by decide +kernel
theorem d_Mo_act_94 : decode prog_8_method_6_code 94 = .ok (.getfield 22, 3) := by decide +kernel
theorem d_Mo_act_97 : decode prog_8_method_6_code 97 = .ok (.iload_n 1, 1) := by decide +kernel
theorem d_Mo_act_98 : decode prog_8_method_6_code 98 = .ok (.dup2, 1) := by decide +kernel
theorem d_Mo_act_99 : decode prog_8_method_6_code 99 = .ok (.iaload, 1) := by decide +kernel
theorem d_Mo_act_100 : decode prog_8_method_6_code 100 = .ok (.iconst 1, 1) := by decide +kernel
theorem d_Mo_act_101 : decode prog_8_method_6_code 101 = .ok (.iadd, 1) := by decide +kernel
theorem d_Mo_act_102 : decode prog_8_method_6_code 102 = .ok (.iastore, 1) := by decide +kernel
theorem d_Mo_act_103 : decode prog_8_method_6_code 103 = .ok (.aload_n 0, 1) := by decide +kernel
theorem d_Mo_act_104 : decode prog_8_method_6_code 104 = .ok (.iconst 0, 1) := by decide +kernel
theorem d_Mo_act_105 : decode prog_8_method_6_code 105 = .ok (.putfield 91, 3) := by decide +kernel
theorem d_Mo_act_108 : decode prog_8_method_6_code 108 = .ok (.iload 5, 2) := by decide +kernel
theorem d_Mo_act_110 : decode prog_8_method_6_code 110 = .ok (.iconst 1, 1) := by decide +kernel
theorem d_Mo_act_111 : decode prog_8_method_6_code 111 = .ok (.iadd, 1) := by decide +kernel
theorem d_Mo_act_112 : decode prog_8_method_6_code 112 = .ok (.ireturn, 1) := by decide +kernel
def f_Mo_act_J37 (M : cs_Mem)  : Int32 × cs_Mem :=
  ((-1), M)
def f_Mo_act (M : cs_Mem) (j : Nat) (x1 : Int32) (x2 : Int32) (x3 : Int32) (x4 : Int32) : Int32 × cs_Mem :=
  if (M j 16) = 0 then
    cs_bd (f_Mo_out M x1 (M j 0)) fun (r2 : Int32) =>
    if r2 = 0 then
      cs_bd (f_Mo_out M x2 7) fun (r4 : Int32) =>
      if r4 = 0 then
        cs_bd (f_Mo_badOperands M x2 x3 x4) fun (r7 : Int32) =>
        if r7 = 0 then
          cs_bd (M 67 x1.toNatClampNeg) fun (z10 : Int32) =>
          if z10 = 5 then
            ((-2), M)
          else
            cs_bd (cs_up M 72 (upd (M 72) ((5 * x1) + z10).toNatClampNeg x2)) fun (N13 : cs_Mem) =>
            cs_bd (cs_up N13 73 (upd (N13 73) ((5 * x1) + z10).toNatClampNeg x3)) fun (N15 : cs_Mem) =>
            cs_bd (cs_up N15 74 (upd (N15 74) ((5 * x1) + z10).toNatClampNeg x4)) fun (N17 : cs_Mem) =>
            cs_bd (cs_up N17 67 (upd (N17 67) x1.toNatClampNeg ((N17 67 x1.toNatClampNeg) + 1))) fun (N20 : cs_Mem) =>
            cs_bd (cs_up N20 j (upd (N20 j) 31 0)) fun (N21 : cs_Mem) =>
            (z10 + 1, N21)
        else
          f_Mo_act_J37 M 
      else
        f_Mo_act_J37 M 
    else
      f_Mo_act_J37 M 
  else
    f_Mo_act_J37 M 
def pre_Mo_act (M : cs_Mem) (j : Nat) (x1 : Int32) (x2 : Int32) (x3 : Int32) (x4 : Int32) : Prop :=
  ((M j 16) = 0 →
    cs_bd (f_Mo_out M x1 (M j 0)) fun (r2 : Int32) =>
    (r2 = 0 →
      cs_bd (f_Mo_out M x2 7) fun (r4 : Int32) =>
      (r4 = 0 →
        (pre_Mo_badOperands M x2 x3 x4) ∧
        cs_bd (f_Mo_badOperands M x2 x3 x4) fun (r7 : Int32) =>
        (r7 = 0 →
          (vp_in x1 (cs_ln M 67)) ∧
          cs_bd (M 67 x1.toNatClampNeg) fun (z10 : Int32) =>
          (z10 = 5 →
            True
          ) ∧ (¬ (z10 = 5) →
            (vp_in ((5 * x1) + z10) (cs_ln M 72)) ∧
            cs_bd (cs_up M 72 (upd (M 72) ((5 * x1) + z10).toNatClampNeg x2)) fun (N13 : cs_Mem) =>
            (vp_in ((5 * x1) + z10) (cs_ln N13 73)) ∧
            cs_bd (cs_up N13 73 (upd (N13 73) ((5 * x1) + z10).toNatClampNeg x3)) fun (N15 : cs_Mem) =>
            (vp_in ((5 * x1) + z10) (cs_ln N15 74)) ∧
            cs_bd (cs_up N15 74 (upd (N15 74) ((5 * x1) + z10).toNatClampNeg x4)) fun (N17 : cs_Mem) =>
            (vp_in x1 (cs_ln N17 67)) ∧
            (vp_in x1 (cs_ln N17 67)) ∧
            True
          )
        ) ∧ (¬ (r7 = 0) →
          True
        )
      ) ∧ (¬ (r4 = 0) →
        True
      )
    ) ∧ (¬ (r2 = 0) →
      True
    )
  ) ∧ (¬ ((M j 16) = 0) →
    True
  )
set_option maxHeartbeats 4000000 in
set_option maxRecDepth 100000 in
theorem w_Mo_act_J37 {p : Program} {l : Launch} {e : Env} {s : State} {m : MethodId} {args : Array Value} {below : List Frame} {meth : Method} {c : Code} {D : va_G} {cA : Nat → ClassId} {A : Nat → Prop} {ad : Nat → Nat} {F : Int32 × cs_Mem} (hC : cs_Ctx p s m args c prog_8_method_6_code 6 "ClassStarterModel" D cA A) (hr : meth.sig.returnType = (some .int)) (hlk : meth.locks = false) : ∀ (M : cs_Mem) (H : Heap) (locs : List Loc) (ls : Array Slot), cs_Wd D cA ad M A s H locs → lv_has ls 6 [] → F = f_Mo_act_J37 M  → W p l e ({ frames := 2, cells := 0, slots := 0, locals := 43 }) s m args below meth c H locs 0 0 (MQ below (cs_Qi D cA ad F A) args s 0 0 A) (F0 m 37 ls []) := by
  have hx := hC.1
  have hb := hC.2.1
  intro M  H locs ls hw hl  hf
  unfold f_Mo_act_J37 at hf
  refine lv_iconst (v := (-1)) hx hb d_Mo_act_37 (by decide) ?_
  exact cs_iret hC hw hr hlk hf d_Mo_act_38
set_option maxHeartbeats 4000000 in
set_option maxRecDepth 100000 in
theorem c_Mo_act (l : Launch) (D : va_G) (cA : Nat → ClassId) (ad : Nat → Nat) (M : cs_Mem) (j : Nat) (hj : cs_is 5 j) (x1 : Int32) (x2 : Int32) (x3 : Int32) (x4 : Int32) (hp : pre_Mo_act M j x1 x2 x3 x4) : cs_Ci l ⟨"ClassStarterModel", "act", "(IIII)I"⟩ prog_8_method_6_code 6 (some .int) ({ frames := 2, cells := 0, slots := 0, locals := 43 }) D cA ad M [.ref (ad j), .int x1, .int x2, .int x3, .int x4] (f_Mo_act M j x1 x2 x3 x4) := by
  refine cs_entry (by decide) (Nat.le_of_ble_eq_true rfl) (fun p e s m below meth c A ls hC hr hlk _ hw hl => ?_)
  have hx := hC.1
  have hb := hC.2.1
  have hl : lv_has ls 6 [(0, .ref (ad j)), (1, .int x1), (2, .int x2), (3, .int x3), (4, .int x4)] := hl
  generalize hF : f_Mo_act M j x1 x2 x3 x4 = F
  have hf := hF.symm
  unfold f_Mo_act at hf
  unfold pre_Mo_act at hp
  refine lv_aload_n hx hb d_Mo_act_0 rfl (lv_at hl 0 rfl) ?_
  refine gf_Mo_begun hC hw hj wd_565 d_Mo_act_1 ?_
  refine lv_if_ne (tgt := 37) hx hb d_Mo_act_4 (by decide) (fun c1 => ?_) (fun c1 => ?_)
  · have hp := hp.2 c1
    have hf := hf.trans (if_neg c1)
    exact w_Mo_act_J37 hC hr hlk M  _ _ ls hw (lv_sub hl [] rfl) hf
  · have hp := hp.1 c1
    have hf := hf.trans (if_pos c1)
    refine lv_iload_n hx hb d_Mo_act_7 rfl (lv_at hl 1 rfl) ?_
    refine lv_aload_n hx hb d_Mo_act_8 rfl (lv_at hl 0 rfl) ?_
    refine gf_Mo_classes hC hw hj wd_549 d_Mo_act_9 ?_
    refine cs_ret_p hC hw (cs_runS (As := [.int x1, .int (M j 0)]) (rest := []) hC hw (c_Mo_out l D cA ad M x1 (M j 0) _) rfl rfl cw_Mo_94 ⟨Nat.le_of_ble_eq_true rfl, Nat.le_of_ble_eq_true rfl⟩ hl.1 rfl rfl (Nat.le_of_ble_eq_true rfl) d_Mo_act_12 ⟨Nat.zero_le _, Nat.zero_le _⟩) (fun r2 H locs er2 hw => ?_)
    have hp := cs_bdP er2 hp
    have hf := cs_bdE er2 hf
    refine lv_if_ne (tgt := 37) hx hb d_Mo_act_15 (by decide) (fun c3 => ?_) (fun c3 => ?_)
    · have hp := hp.2 c3
      have hf := hf.trans (if_neg c3)
      exact w_Mo_act_J37 hC hr hlk M  _ _ ls hw (lv_sub hl [] rfl) hf
    · have hp := hp.1 c3
      have hf := hf.trans (if_pos c3)
      refine lv_iload_n hx hb d_Mo_act_18 rfl (lv_at hl 2 rfl) ?_
      refine lv_bipush (v := 7) hx hb d_Mo_act_19 (by decide) ?_
      refine cs_ret_p hC hw (cs_runS (As := [.int x2, .int 7]) (rest := []) hC hw (c_Mo_out l D cA ad M x2 7 _) rfl rfl cw_Mo_94 ⟨Nat.le_of_ble_eq_true rfl, Nat.le_of_ble_eq_true rfl⟩ hl.1 rfl rfl (Nat.le_of_ble_eq_true rfl) d_Mo_act_21 ⟨Nat.zero_le _, Nat.zero_le _⟩) (fun r4 H locs er4 hw => ?_)
      have hp := cs_bdP er4 hp
      have hf := cs_bdE er4 hf
      refine lv_if_ne (tgt := 37) hx hb d_Mo_act_24 (by decide) (fun c5 => ?_) (fun c5 => ?_)
      · have hp := hp.2 c5
        have hf := hf.trans (if_neg c5)
        exact w_Mo_act_J37 hC hr hlk M  _ _ ls hw (lv_sub hl [] rfl) hf
      · have hp := hp.1 c5
        have hf := hf.trans (if_pos c5)
        refine lv_iload_n hx hb d_Mo_act_27 rfl (lv_at hl 2 rfl) ?_
        refine lv_iload_n hx hb d_Mo_act_28 rfl (lv_at hl 3 rfl) ?_
        refine lv_iload hx hb d_Mo_act_29 (lv_at hl 4 rfl) ?_
        have o6 := hp.1
        have hp := hp.2
        refine cs_ret_p hC hw (cs_runS (As := [.int x2, .int x3, .int x4]) (rest := []) hC hw (c_Mo_badOperands l D cA ad M x2 x3 x4 o6 _) rfl rfl cw_Mo_98 ⟨Nat.le_of_ble_eq_true rfl, Nat.le_of_ble_eq_true rfl⟩ hl.1 rfl rfl (Nat.le_of_ble_eq_true rfl) d_Mo_act_31 ⟨Nat.zero_le _, Nat.zero_le _⟩) (fun r7 H locs er7 hw => ?_)
        have hp := cs_bdP er7 hp
        have hf := cs_bdE er7 hf
        refine lv_if_eq (tgt := 39) hx hb d_Mo_act_34 (by decide) (fun c8 => ?_) (fun c8 => ?_)
        · have hp := hp.1 c8
          have hf := hf.trans (if_pos c8)
          refine lv_aload_n hx hb d_Mo_act_39 rfl (lv_at hl 0 rfl) ?_
          refine gf_Mo_actionCount hC hw hj wd_554 d_Mo_act_40 ?_
          refine lv_iload_n hx hb d_Mo_act_43 rfl (lv_at hl 1 rfl) ?_
          have o9 := hp.1
          have hp := hp.2
          refine cs_iald hC hw is_67 o9 d_Mo_act_44 ?_
          refine lv_topi (fun z10 ez10 => ?_)
          have hp := cs_bdP ez10 hp
          have hf := cs_bdE ez10 hf
          refine lv_istore (lv' := [(5, .int z10), (0, .ref (ad j)), (1, .int x1), (2, .int x2), (3, .int x3), (4, .int x4)]) hx hb d_Mo_act_45 hl (by decide) rfl (fun ls hl => ?_)
          refine lv_iload hx hb d_Mo_act_47 (lv_at hl 0 rfl) ?_
          refine lv_iconst (v := 5) hx hb d_Mo_act_49 (by decide) ?_
          refine lv_icmp_ne (tgt := 56) hx hb d_Mo_act_50 (by decide) (fun c11 => ?_) (fun c11 => ?_)
          · have hp := hp.2 c11
            have hf := hf.trans (if_neg c11)
            refine lv_aload_n hx hb d_Mo_act_56 rfl (lv_at hl 1 rfl) ?_
            refine gf_Mo_act hC hw hj wd_559 d_Mo_act_57 ?_
            refine lv_iconst (v := 5) hx hb d_Mo_act_60 (by decide) ?_
            refine lv_iload_n hx hb d_Mo_act_61 rfl (lv_at hl 2 rfl) ?_
            refine lv_imul hx hb d_Mo_act_62 ?_
            refine lv_iload hx hb d_Mo_act_63 (lv_at hl 0 rfl) ?_
            refine lv_iadd hx hb d_Mo_act_65 ?_
            refine lv_iload_n hx hb d_Mo_act_66 rfl (lv_at hl 3 rfl) ?_
            have o12 := hp.1
            have hp := hp.2
            refine cs_iast hC hw is_72 o12 d_Mo_act_67 (fun N13 H locs eN13 hw => ?_)
            have hp := cs_bdP eN13 hp
            have hf := cs_bdE eN13 hf
            refine lv_aload_n hx hb d_Mo_act_68 rfl (lv_at hl 1 rfl) ?_
            refine gf_Mo_actA hC hw hj wd_560 d_Mo_act_69 ?_
            refine lv_iconst (v := 5) hx hb d_Mo_act_72 (by decide) ?_
            refine lv_iload_n hx hb d_Mo_act_73 rfl (lv_at hl 2 rfl) ?_
            refine lv_imul hx hb d_Mo_act_74 ?_
            refine lv_iload hx hb d_Mo_act_75 (lv_at hl 0 rfl) ?_
            refine lv_iadd hx hb d_Mo_act_77 ?_
            refine lv_iload_n hx hb d_Mo_act_78 rfl (lv_at hl 4 rfl) ?_
            have o14 := hp.1
            have hp := hp.2
            refine cs_iast hC hw is_73 o14 d_Mo_act_79 (fun N15 H locs eN15 hw => ?_)
            have hp := cs_bdP eN15 hp
            have hf := cs_bdE eN15 hf
            refine lv_aload_n hx hb d_Mo_act_80 rfl (lv_at hl 1 rfl) ?_
            refine gf_Mo_actB hC hw hj wd_561 d_Mo_act_81 ?_
            refine lv_iconst (v := 5) hx hb d_Mo_act_84 (by decide) ?_
            refine lv_iload_n hx hb d_Mo_act_85 rfl (lv_at hl 2 rfl) ?_
            refine lv_imul hx hb d_Mo_act_86 ?_
            refine lv_iload hx hb d_Mo_act_87 (lv_at hl 0 rfl) ?_
            refine lv_iadd hx hb d_Mo_act_89 ?_
            refine lv_iload hx hb d_Mo_act_90 (lv_at hl 5 rfl) ?_
            have o16 := hp.1
            have hp := hp.2
            refine cs_iast hC hw is_74 o16 d_Mo_act_92 (fun N17 H locs eN17 hw => ?_)
            have hp := cs_bdP eN17 hp
            have hf := cs_bdE eN17 hf
            refine lv_aload_n hx hb d_Mo_act_93 rfl (lv_at hl 1 rfl) ?_
            refine gf_Mo_actionCount hC hw hj wd_554 d_Mo_act_94 ?_
            refine lv_iload_n hx hb d_Mo_act_97 rfl (lv_at hl 2 rfl) ?_
            refine lv_dup2_11 hx hb d_Mo_act_98 rfl rfl ?_
            have o18 := hp.1
            have hp := hp.2
            refine cs_iald hC hw is_67 o18 d_Mo_act_99 ?_
            refine lv_iconst (v := 1) hx hb d_Mo_act_100 (by decide) ?_
            refine lv_iadd hx hb d_Mo_act_101 ?_
            have o19 := hp.1
            have hp := hp.2
            refine cs_iast hC hw is_67 o19 d_Mo_act_102 (fun N20 H locs eN20 hw => ?_)
            have hf := cs_bdE eN20 hf
            refine lv_aload_n hx hb d_Mo_act_103 rfl (lv_at hl 1 rfl) ?_
            refine lv_iconst (v := 0) hx hb d_Mo_act_104 (by decide) ?_
            refine pf_Mo_explored hC hw hj wd_580 (Or.inl rfl) d_Mo_act_105 (fun N21 H locs eN21 hw => ?_)
            have hf := cs_bdE eN21 hf
            refine lv_iload hx hb d_Mo_act_108 (lv_at hl 0 rfl) ?_
            refine lv_iconst (v := 1) hx hb d_Mo_act_110 (by decide) ?_
            refine lv_iadd hx hb d_Mo_act_111 ?_
            exact cs_iret hC hw hr hlk hf d_Mo_act_112
          · have hp := hp.1 c11
            have hf := hf.trans (if_pos c11)
            refine lv_bipush (v := (-2)) hx hb d_Mo_act_53 (by decide) ?_
            exact cs_iret hC hw hr hlk hf d_Mo_act_55
        · have hp := hp.2 c8
          have hf := hf.trans (if_neg c8)
          exact w_Mo_act_J37 hC hr hlk M  _ _ ls hw (lv_sub hl [] rfl) hf
theorem d_Mo_plan_0 : decode prog_8_method_7_code 0 = .ok (.aload_n 0, 1) := by decide +kernel
theorem d_Mo_plan_1 : decode prog_8_method_7_code 1 = .ok (.getfield 83, 3) := by decide +kernel
theorem d_Mo_plan_4 : decode prog_8_method_7_code 4 = .ok (.ifCond .ne 39, 3) := by decide +kernel
theorem d_Mo_plan_7 : decode prog_8_method_7_code 7 = .ok (.iload_n 1, 1) := by decide +kernel
theorem d_Mo_plan_8 : decode prog_8_method_7_code 8 = .ok (.iconst 3, 1) := by decide +kernel
theorem d_Mo_plan_9 : decode prog_8_method_7_code 9 = .ok (.invokestatic 94, 3) := by decide +kernel
theorem d_Mo_plan_12 : decode prog_8_method_7_code 12 = .ok (.ifCond .ne 31, 3) := by decide +kernel
theorem d_Mo_plan_15 : decode prog_8_method_7_code 15 = .ok (.iload_n 2, 1) := by decide +kernel
theorem d_Mo_plan_16 : decode prog_8_method_7_code 16 = .ok (.ifCond .eq 14, 3) := by decide +kernel
theorem d_Mo_plan_19 : decode prog_8_method_7_code 19 = .ok (.iload_n 2, 1) := by decide +kernel
theorem d_Mo_plan_20 : decode prog_8_method_7_code 20 = .ok (.iconst 5, 1) := by decide +kernel
theorem d_Mo_plan_21 : decode prog_8_method_7_code 21 = .ok (.if_icmp .eq 9, 3) := by decide +kernel
theorem d_Mo_plan_24 : decode prog_8_method_7_code 24 = .ok (.iload_n 2, 1) := by decide +kernel
theorem d_Mo_plan_25 : decode prog_8_method_7_code 25 = .ok (.bipush 6, 2) := by decide +kernel
theorem d_Mo_plan_27 : decode prog_8_method_7_code 27 = .ok (.if_icmp .ne 16, 3) := by decide +kernel
theorem d_Mo_plan_30 : decode prog_8_method_7_code 30 = .ok (.iload_n 2, 1) := by decide +kernel
theorem d_Mo_plan_31 : decode prog_8_method_7_code 31 = .ok (.ifCond .ne 14, 3) := by decide +kernel
theorem d_Mo_plan_34 : decode prog_8_method_7_code 34 = .ok (.iload_n 3, 1) := by decide +kernel
theorem d_Mo_plan_35 : decode prog_8_method_7_code 35 = .ok (.bipush 8, 2) := by decide +kernel
theorem d_Mo_plan_37 : decode prog_8_method_7_code 37 = .ok (.invokestatic 94, 3) := by decide +kernel
theorem d_Mo_plan_40 : decode prog_8_method_7_code 40 = .ok (.ifCond .eq 5, 3) := by decide +kernel
theorem d_Mo_plan_43 : decode prog_8_method_7_code 43 = .ok (.iconst (-1), 1) := by decide +kernel
theorem d_Mo_plan_44 : decode prog_8_method_7_code 44 = .ok (.ireturn, 1) := by decide +kernel
theorem d_Mo_plan_45 : decode prog_8_method_7_code 45 = .ok (.aload_n 0, 1) := by decide +kernel
theorem d_Mo_plan_46 : decode prog_8_method_7_code 46 = .ok (.getfield 47, 3) := by decide +kernel
theorem d_Mo_plan_49 : decode prog_8_method_7_code 49 = .ok (.iload_n 1, 1) := by decide +kernel
theorem d_Mo_plan_50 : decode prog_8_method_7_code 50 = .ok (.iaload, 1) := by decide +kernel
theorem d_Mo_plan_51 : decode prog_8_method_7_code 51 = .ok (.istore 4, 2) := by decide +kernel
theorem d_Mo_plan_53 : decode prog_8_method_7_code 53 = .ok (.iload 4, 2) := by decide +kernel
theorem d_Mo_plan_55 : decode prog_8_method_7_code 55 = .ok (.iconst 3, 1) := by decide +kernel
theorem d_Mo_plan_56 : decode prog_8_method_7_code 56 = .ok (.if_icmp .ne 6, 3) := by decide +kernel
theorem d_Mo_plan_59 : decode prog_8_method_7_code 59 = .ok (.bipush (-2), 2) := by decide +kernel
theorem d_Mo_plan_61 : decode prog_8_method_7_code 61 = .ok (.ireturn, 1) := by decide +kernel
theorem d_Mo_plan_62 : decode prog_8_method_7_code 62 = .ok (.aload_n 0, 1) := by decide +kernel
theorem d_Mo_plan_63 : decode prog_8_method_7_code 63 = .ok (.getfield 38, 3) := by decide +kernel
theorem d_Mo_plan_66 : decode prog_8_method_7_code 66 = .ok (.bipush 40, 2) := by decide +kernel
theorem d_Mo_plan_68 : decode prog_8_method_7_code 68 = .ok (.iconst 5, 1) := by decide +kernel
theorem d_Mo_plan_69 : decode prog_8_method_7_code 69 = .ok (.iload_n 1, 1) := by decide +kernel
theorem d_Mo_plan_70 : decode prog_8_method_7_code 70 = .ok (.imul, 1) := by decide +kernel
theorem d_Mo_plan_71 : decode prog_8_method_7_code 71 = .ok (.iadd, 1) := by decide +kernel
theorem d_Mo_plan_72 : decode prog_8_method_7_code 72 = .ok (.iload 4, 2) := by decide +kernel
theorem d_Mo_plan_74 : decode prog_8_method_7_code 74 = .ok (.iadd, 1) := by decide +kernel
theorem d_Mo_plan_75 : decode prog_8_method_7_code 75 = .ok (.iload_n 2, 1) := by decide +kernel
theorem d_Mo_plan_76 : decode prog_8_method_7_code 76 = .ok (.iastore, 1) := by decide +kernel
theorem d_Mo_plan_77 : decode prog_8_method_7_code 77 = .ok (.aload_n 0, 1) := by decide +kernel
theorem d_Mo_plan_78 : decode prog_8_method_7_code 78 = .ok (.getfield 41, 3) := by decide +kernel
theorem d_Mo_plan_81 : decode prog_8_method_7_code 81 = .ok (.bipush 40, 2) := by decide +kernel
theorem d_Mo_plan_83 : decode prog_8_method_7_code 83 = .ok (.iconst 5, 1) := by decide +kernel
theorem d_Mo_plan_84 : decode prog_8_method_7_code 84 = .ok (.iload_n 1, 1) := by decide +kernel
theorem d_Mo_plan_85 : decode prog_8_method_7_code 85 = .ok (.imul, 1) := by decide +kernel
theorem d_Mo_plan_86 : decode prog_8_method_7_code 86 = .ok (.iadd, 1) := by decide +kernel
theorem d_Mo_plan_87 : decode prog_8_method_7_code 87 = .ok (.iload 4, 2) := by decide +kernel
theorem d_Mo_plan_89 : decode prog_8_method_7_code 89 = .ok (.iadd, 1) := by decide +kernel
theorem d_Mo_plan_90 : decode prog_8_method_7_code 90 = .ok (.iload_n 3, 1) := by decide +kernel
theorem d_Mo_plan_91 : decode prog_8_method_7_code 91 = .ok (.iastore, 1) := by decide +kernel
theorem d_Mo_plan_92 : decode prog_8_method_7_code 92 = .ok (.aload_n 0, 1) := by decide +kernel
theorem d_Mo_plan_93 : decode prog_8_method_7_code 93 = .ok (.getfield 47, 3) := by decide +kernel
theorem d_Mo_plan_96 : decode prog_8_method_7_code 96 = .ok (.iload_n 1, 1) := by decide +kernel
theorem d_Mo_plan_97 : decode prog_8_method_7_code 97 = .ok (.dup2, 1) := by decide +kernel
theorem d_Mo_plan_98 : decode prog_8_method_7_code 98 = .ok (.iaload, 1) := by decide +kernel
theorem d_Mo_plan_99 : decode prog_8_method_7_code 99 = .ok (.iconst 1, 1) := by decide +kernel
theorem d_Mo_plan_100 : decode prog_8_method_7_code 100 = .ok (.iadd, 1) := by decide +kernel
theorem d_Mo_plan_101 : decode prog_8_method_7_code 101 = .ok (.iastore, 1) := by decide +kernel
theorem d_Mo_plan_102 : decode prog_8_method_7_code 102 = .ok (.aload_n 0, 1) := by decide +kernel
theorem d_Mo_plan_103 : decode prog_8_method_7_code 103 = .ok (.iconst 0, 1) := by decide +kernel
theorem d_Mo_plan_104 : decode prog_8_method_7_code 104 = .ok (.putfield 91, 3) := by decide +kernel
theorem d_Mo_plan_107 : decode prog_8_method_7_code 107 = .ok (.iload 4, 2) := by decide +kernel
theorem d_Mo_plan_109 : decode prog_8_method_7_code 109 = .ok (.iconst 1, 1) := by decide +kernel
theorem d_Mo_plan_110 : decode prog_8_method_7_code 110 = .ok (.iadd, 1) := by decide +kernel
theorem d_Mo_plan_111 : decode prog_8_method_7_code 111 = .ok (.ireturn, 1) := by decide +kernel
def f_Mo_plan_J45 (M : cs_Mem) (j : Nat) (y1 : Int32) (y2 : Int32) (y3 : Int32) : Int32 × cs_Mem :=
  cs_bd (M 75 y1.toNatClampNeg) fun (z11 : Int32) =>
  if z11 = 3 then
    ((-2), M)
  else
    cs_bd (cs_up M 72 (upd (M 72) ((40 + (5 * y1)) + z11).toNatClampNeg y2)) fun (N14 : cs_Mem) =>
    cs_bd (cs_up N14 73 (upd (N14 73) ((40 + (5 * y1)) + z11).toNatClampNeg y3)) fun (N16 : cs_Mem) =>
    cs_bd (cs_up N16 75 (upd (N16 75) y1.toNatClampNeg ((N16 75 y1.toNatClampNeg) + 1))) fun (N19 : cs_Mem) =>
    cs_bd (cs_up N19 j (upd (N19 j) 31 0)) fun (N20 : cs_Mem) =>
    (z11 + 1, N20)
def pre_Mo_plan_J45 (M : cs_Mem) (j : Nat) (y1 : Int32) (y2 : Int32) (y3 : Int32) : Prop :=
  (vp_in y1 (cs_ln M 75)) ∧
  cs_bd (M 75 y1.toNatClampNeg) fun (z11 : Int32) =>
  (z11 = 3 →
    True
  ) ∧ (¬ (z11 = 3) →
    (vp_in ((40 + (5 * y1)) + z11) (cs_ln M 72)) ∧
    cs_bd (cs_up M 72 (upd (M 72) ((40 + (5 * y1)) + z11).toNatClampNeg y2)) fun (N14 : cs_Mem) =>
    (vp_in ((40 + (5 * y1)) + z11) (cs_ln N14 73)) ∧
    cs_bd (cs_up N14 73 (upd (N14 73) ((40 + (5 * y1)) + z11).toNatClampNeg y3)) fun (N16 : cs_Mem) =>
    (vp_in y1 (cs_ln N16 75)) ∧
    (vp_in y1 (cs_ln N16 75)) ∧
    True
  )
def f_Mo_plan_J43 (M : cs_Mem)  : Int32 × cs_Mem :=
  ((-1), M)
def f_Mo_plan_J30 (M : cs_Mem) (j : Nat) (y1 : Int32) (y2 : Int32) (y3 : Int32) : Int32 × cs_Mem :=
  if y2 = 0 then
    cs_bd (f_Mo_out M y3 8) fun (r8 : Int32) =>
    if r8 = 0 then
      f_Mo_plan_J45 M j y1 y2 y3
    else
      f_Mo_plan_J43 M 
  else
    f_Mo_plan_J45 M j y1 y2 y3
def pre_Mo_plan_J30 (M : cs_Mem) (j : Nat) (y1 : Int32) (y2 : Int32) (y3 : Int32) : Prop :=
  (y2 = 0 →
    cs_bd (f_Mo_out M y3 8) fun (r8 : Int32) =>
    (r8 = 0 →
      pre_Mo_plan_J45 M j y1 y2 y3
    ) ∧ (¬ (r8 = 0) →
      True
    )
  ) ∧ (¬ (y2 = 0) →
    pre_Mo_plan_J45 M j y1 y2 y3
  )
def f_Mo_plan (M : cs_Mem) (j : Nat) (x1 : Int32) (x2 : Int32) (x3 : Int32) : Int32 × cs_Mem :=
  if (M j 16) = 0 then
    cs_bd (f_Mo_out M x1 3) fun (r2 : Int32) =>
    if r2 = 0 then
      if x2 = 0 then
        f_Mo_plan_J30 M j x1 x2 x3
      else
        if x2 = 5 then
          f_Mo_plan_J30 M j x1 x2 x3
        else
          if x2 = 6 then
            f_Mo_plan_J30 M j x1 x2 x3
          else
            f_Mo_plan_J43 M 
    else
      f_Mo_plan_J43 M 
  else
    f_Mo_plan_J43 M 
def pre_Mo_plan (M : cs_Mem) (j : Nat) (x1 : Int32) (x2 : Int32) (x3 : Int32) : Prop :=
  ((M j 16) = 0 →
    cs_bd (f_Mo_out M x1 3) fun (r2 : Int32) =>
    (r2 = 0 →
      (x2 = 0 →
        pre_Mo_plan_J30 M j x1 x2 x3
      ) ∧ (¬ (x2 = 0) →
        (x2 = 5 →
          pre_Mo_plan_J30 M j x1 x2 x3
        ) ∧ (¬ (x2 = 5) →
          (x2 = 6 →
            pre_Mo_plan_J30 M j x1 x2 x3
          ) ∧ (¬ (x2 = 6) →
            True
          )
        )
      )
    ) ∧ (¬ (r2 = 0) →
      True
    )
  ) ∧ (¬ ((M j 16) = 0) →
    True
  )
set_option maxHeartbeats 4000000 in
set_option maxRecDepth 100000 in
theorem w_Mo_plan_J45 {p : Program} {l : Launch} {e : Env} {s : State} {m : MethodId} {args : Array Value} {below : List Frame} {meth : Method} {c : Code} {D : va_G} {cA : Nat → ClassId} {A : Nat → Prop} {ad : Nat → Nat} {F : Int32 × cs_Mem} (hC : cs_Ctx p s m args c prog_8_method_7_code 5 "ClassStarterModel" D cA A) (hr : meth.sig.returnType = (some .int)) (hlk : meth.locks = false) : ∀ (M : cs_Mem) (j : Nat) (y1 : Int32) (y2 : Int32) (y3 : Int32) (H : Heap) (locs : List Loc) (ls : Array Slot), cs_Wd D cA ad M A s H locs → lv_has ls 5 [(0, .ref (ad j)), (1, .int y1), (2, .int y2), (3, .int y3)] → cs_is 5 j → pre_Mo_plan_J45 M j y1 y2 y3 → F = f_Mo_plan_J45 M j y1 y2 y3 → W p l e ({ frames := 1, cells := 0, slots := 0, locals := 21 }) s m args below meth c H locs 0 0 (MQ below (cs_Qi D cA ad F A) args s 0 0 A) (F0 m 45 ls []) := by
  have hx := hC.1
  have hb := hC.2.1
  intro M j y1 y2 y3 H locs ls hw hl g0 hp hf
  unfold f_Mo_plan_J45 at hf
  unfold pre_Mo_plan_J45 at hp
  refine lv_aload_n hx hb d_Mo_plan_45 rfl (lv_at hl 0 rfl) ?_
  refine gf_Mo_planCount hC hw g0 wd_562 d_Mo_plan_46 ?_
  refine lv_iload_n hx hb d_Mo_plan_49 rfl (lv_at hl 1 rfl) ?_
  have o10 := hp.1
  have hp := hp.2
  refine cs_iald hC hw is_75 o10 d_Mo_plan_50 ?_
  refine lv_topi (fun z11 ez11 => ?_)
  have hp := cs_bdP ez11 hp
  have hf := cs_bdE ez11 hf
  refine lv_istore (lv' := [(4, .int z11), (0, .ref (ad j)), (1, .int y1), (2, .int y2), (3, .int y3)]) hx hb d_Mo_plan_51 hl (by decide) rfl (fun ls hl => ?_)
  refine lv_iload hx hb d_Mo_plan_53 (lv_at hl 0 rfl) ?_
  refine lv_iconst (v := 3) hx hb d_Mo_plan_55 (by decide) ?_
  refine lv_icmp_ne (tgt := 62) hx hb d_Mo_plan_56 (by decide) (fun c12 => ?_) (fun c12 => ?_)
  · have hp := hp.2 c12
    have hf := hf.trans (if_neg c12)
    refine lv_aload_n hx hb d_Mo_plan_62 rfl (lv_at hl 1 rfl) ?_
    refine gf_Mo_act hC hw g0 wd_559 d_Mo_plan_63 ?_
    refine lv_bipush (v := 40) hx hb d_Mo_plan_66 (by decide) ?_
    refine lv_iconst (v := 5) hx hb d_Mo_plan_68 (by decide) ?_
    refine lv_iload_n hx hb d_Mo_plan_69 rfl (lv_at hl 2 rfl) ?_
    refine lv_imul hx hb d_Mo_plan_70 ?_
    refine lv_iadd hx hb d_Mo_plan_71 ?_
    refine lv_iload hx hb d_Mo_plan_72 (lv_at hl 0 rfl) ?_
    refine lv_iadd hx hb d_Mo_plan_74 ?_
    refine lv_iload_n hx hb d_Mo_plan_75 rfl (lv_at hl 3 rfl) ?_
    have o13 := hp.1
    have hp := hp.2
    refine cs_iast hC hw is_72 o13 d_Mo_plan_76 (fun N14 H locs eN14 hw => ?_)
    have hp := cs_bdP eN14 hp
    have hf := cs_bdE eN14 hf
    refine lv_aload_n hx hb d_Mo_plan_77 rfl (lv_at hl 1 rfl) ?_
    refine gf_Mo_actA hC hw g0 wd_560 d_Mo_plan_78 ?_
    refine lv_bipush (v := 40) hx hb d_Mo_plan_81 (by decide) ?_
    refine lv_iconst (v := 5) hx hb d_Mo_plan_83 (by decide) ?_
    refine lv_iload_n hx hb d_Mo_plan_84 rfl (lv_at hl 2 rfl) ?_
    refine lv_imul hx hb d_Mo_plan_85 ?_
    refine lv_iadd hx hb d_Mo_plan_86 ?_
    refine lv_iload hx hb d_Mo_plan_87 (lv_at hl 0 rfl) ?_
    refine lv_iadd hx hb d_Mo_plan_89 ?_
    refine lv_iload_n hx hb d_Mo_plan_90 rfl (lv_at hl 4 rfl) ?_
    have o15 := hp.1
    have hp := hp.2
    refine cs_iast hC hw is_73 o15 d_Mo_plan_91 (fun N16 H locs eN16 hw => ?_)
    have hp := cs_bdP eN16 hp
    have hf := cs_bdE eN16 hf
    refine lv_aload_n hx hb d_Mo_plan_92 rfl (lv_at hl 1 rfl) ?_
    refine gf_Mo_planCount hC hw g0 wd_562 d_Mo_plan_93 ?_
    refine lv_iload_n hx hb d_Mo_plan_96 rfl (lv_at hl 2 rfl) ?_
    refine lv_dup2_11 hx hb d_Mo_plan_97 rfl rfl ?_
    have o17 := hp.1
    have hp := hp.2
    refine cs_iald hC hw is_75 o17 d_Mo_plan_98 ?_
    refine lv_iconst (v := 1) hx hb d_Mo_plan_99 (by decide) ?_
    refine lv_iadd hx hb d_Mo_plan_100 ?_
    have o18 := hp.1
    have hp := hp.2
    refine cs_iast hC hw is_75 o18 d_Mo_plan_101 (fun N19 H locs eN19 hw => ?_)
    have hf := cs_bdE eN19 hf
    refine lv_aload_n hx hb d_Mo_plan_102 rfl (lv_at hl 1 rfl) ?_
    refine lv_iconst (v := 0) hx hb d_Mo_plan_103 (by decide) ?_
    refine pf_Mo_explored hC hw g0 wd_580 (Or.inl rfl) d_Mo_plan_104 (fun N20 H locs eN20 hw => ?_)
    have hf := cs_bdE eN20 hf
    refine lv_iload hx hb d_Mo_plan_107 (lv_at hl 0 rfl) ?_
    refine lv_iconst (v := 1) hx hb d_Mo_plan_109 (by decide) ?_
    refine lv_iadd hx hb d_Mo_plan_110 ?_
    exact cs_iret hC hw hr hlk hf d_Mo_plan_111
  · have hp := hp.1 c12
    have hf := hf.trans (if_pos c12)
    refine lv_bipush (v := (-2)) hx hb d_Mo_plan_59 (by decide) ?_
    exact cs_iret hC hw hr hlk hf d_Mo_plan_61
set_option maxHeartbeats 4000000 in
set_option maxRecDepth 100000 in
theorem w_Mo_plan_J43 {p : Program} {l : Launch} {e : Env} {s : State} {m : MethodId} {args : Array Value} {below : List Frame} {meth : Method} {c : Code} {D : va_G} {cA : Nat → ClassId} {A : Nat → Prop} {ad : Nat → Nat} {F : Int32 × cs_Mem} (hC : cs_Ctx p s m args c prog_8_method_7_code 5 "ClassStarterModel" D cA A) (hr : meth.sig.returnType = (some .int)) (hlk : meth.locks = false) : ∀ (M : cs_Mem) (H : Heap) (locs : List Loc) (ls : Array Slot), cs_Wd D cA ad M A s H locs → lv_has ls 5 [] → F = f_Mo_plan_J43 M  → W p l e ({ frames := 1, cells := 0, slots := 0, locals := 21 }) s m args below meth c H locs 0 0 (MQ below (cs_Qi D cA ad F A) args s 0 0 A) (F0 m 43 ls []) := by
  have hx := hC.1
  have hb := hC.2.1
  intro M  H locs ls hw hl  hf
  unfold f_Mo_plan_J43 at hf
  refine lv_iconst (v := (-1)) hx hb d_Mo_plan_43 (by decide) ?_
  exact cs_iret hC hw hr hlk hf d_Mo_plan_44
set_option maxHeartbeats 4000000 in
set_option maxRecDepth 100000 in
theorem w_Mo_plan_J30 {p : Program} {l : Launch} {e : Env} {s : State} {m : MethodId} {args : Array Value} {below : List Frame} {meth : Method} {c : Code} {D : va_G} {cA : Nat → ClassId} {A : Nat → Prop} {ad : Nat → Nat} {F : Int32 × cs_Mem} (hC : cs_Ctx p s m args c prog_8_method_7_code 5 "ClassStarterModel" D cA A) (hr : meth.sig.returnType = (some .int)) (hlk : meth.locks = false) : ∀ (M : cs_Mem) (j : Nat) (y1 : Int32) (y2 : Int32) (y3 : Int32) (H : Heap) (locs : List Loc) (ls : Array Slot), cs_Wd D cA ad M A s H locs → lv_has ls 5 [(0, .ref (ad j)), (1, .int y1), (2, .int y2), (3, .int y3)] → cs_is 5 j → pre_Mo_plan_J30 M j y1 y2 y3 → F = f_Mo_plan_J30 M j y1 y2 y3 → W p l e ({ frames := 1, cells := 0, slots := 0, locals := 21 }) s m args below meth c H locs 0 0 (MQ below (cs_Qi D cA ad F A) args s 0 0 A) (F0 m 30 ls []) := by
  have hx := hC.1
  have hb := hC.2.1
  intro M j y1 y2 y3 H locs ls hw hl g0 hp hf
  unfold f_Mo_plan_J30 at hf
  unfold pre_Mo_plan_J30 at hp
  refine lv_iload_n hx hb d_Mo_plan_30 rfl (lv_at hl 2 rfl) ?_
  refine lv_if_ne (tgt := 45) hx hb d_Mo_plan_31 (by decide) (fun c7 => ?_) (fun c7 => ?_)
  · have hp := hp.2 c7
    have hf := hf.trans (if_neg c7)
    exact w_Mo_plan_J45 hC hr hlk M j y1 y2 y3 _ _ ls hw (lv_sub hl [0, 1, 2, 3] rfl) g0 hp hf
  · have hp := hp.1 c7
    have hf := hf.trans (if_pos c7)
    refine lv_iload_n hx hb d_Mo_plan_34 rfl (lv_at hl 3 rfl) ?_
    refine lv_bipush (v := 8) hx hb d_Mo_plan_35 (by decide) ?_
    refine cs_ret_p hC hw (cs_runS (As := [.int y3, .int 8]) (rest := []) hC hw (c_Mo_out l D cA ad M y3 8 _) rfl rfl cw_Mo_94 ⟨Nat.le_of_ble_eq_true rfl, Nat.le_of_ble_eq_true rfl⟩ hl.1 rfl rfl (Nat.le_of_ble_eq_true rfl) d_Mo_plan_37 ⟨Nat.zero_le _, Nat.zero_le _⟩) (fun r8 H locs er8 hw => ?_)
    have hp := cs_bdP er8 hp
    have hf := cs_bdE er8 hf
    refine lv_if_eq (tgt := 45) hx hb d_Mo_plan_40 (by decide) (fun c9 => ?_) (fun c9 => ?_)
    · have hp := hp.1 c9
      have hf := hf.trans (if_pos c9)
      exact w_Mo_plan_J45 hC hr hlk M j y1 y2 y3 _ _ ls hw (lv_sub hl [0, 1, 2, 3] rfl) g0 hp hf
    · have hp := hp.2 c9
      have hf := hf.trans (if_neg c9)
      exact w_Mo_plan_J43 hC hr hlk M  _ _ ls hw (lv_sub hl [] rfl) hf
set_option maxHeartbeats 4000000 in
set_option maxRecDepth 100000 in
theorem c_Mo_plan (l : Launch) (D : va_G) (cA : Nat → ClassId) (ad : Nat → Nat) (M : cs_Mem) (j : Nat) (hj : cs_is 5 j) (x1 : Int32) (x2 : Int32) (x3 : Int32) (hp : pre_Mo_plan M j x1 x2 x3) : cs_Ci l ⟨"ClassStarterModel", "plan", "(III)I"⟩ prog_8_method_7_code 5 (some .int) ({ frames := 1, cells := 0, slots := 0, locals := 21 }) D cA ad M [.ref (ad j), .int x1, .int x2, .int x3] (f_Mo_plan M j x1 x2 x3) := by
  refine cs_entry (by decide) (Nat.le_of_ble_eq_true rfl) (fun p e s m below meth c A ls hC hr hlk _ hw hl => ?_)
  have hx := hC.1
  have hb := hC.2.1
  have hl : lv_has ls 5 [(0, .ref (ad j)), (1, .int x1), (2, .int x2), (3, .int x3)] := hl
  generalize hF : f_Mo_plan M j x1 x2 x3 = F
  have hf := hF.symm
  unfold f_Mo_plan at hf
  unfold pre_Mo_plan at hp
  refine lv_aload_n hx hb d_Mo_plan_0 rfl (lv_at hl 0 rfl) ?_
  refine gf_Mo_begun hC hw hj wd_565 d_Mo_plan_1 ?_
  refine lv_if_ne (tgt := 43) hx hb d_Mo_plan_4 (by decide) (fun c1 => ?_) (fun c1 => ?_)
  · have hp := hp.2 c1
    have hf := hf.trans (if_neg c1)
    exact w_Mo_plan_J43 hC hr hlk M  _ _ ls hw (lv_sub hl [] rfl) hf
  · have hp := hp.1 c1
    have hf := hf.trans (if_pos c1)
    refine lv_iload_n hx hb d_Mo_plan_7 rfl (lv_at hl 1 rfl) ?_
    refine lv_iconst (v := 3) hx hb d_Mo_plan_8 (by decide) ?_
    refine cs_ret_p hC hw (cs_runS (As := [.int x1, .int 3]) (rest := []) hC hw (c_Mo_out l D cA ad M x1 3 _) rfl rfl cw_Mo_94 ⟨Nat.le_of_ble_eq_true rfl, Nat.le_of_ble_eq_true rfl⟩ hl.1 rfl rfl (Nat.le_of_ble_eq_true rfl) d_Mo_plan_9 ⟨Nat.zero_le _, Nat.zero_le _⟩) (fun r2 H locs er2 hw => ?_)
    have hp := cs_bdP er2 hp
    have hf := cs_bdE er2 hf
    refine lv_if_ne (tgt := 43) hx hb d_Mo_plan_12 (by decide) (fun c3 => ?_) (fun c3 => ?_)
    · have hp := hp.2 c3
      have hf := hf.trans (if_neg c3)
      exact w_Mo_plan_J43 hC hr hlk M  _ _ ls hw (lv_sub hl [] rfl) hf
    · have hp := hp.1 c3
      have hf := hf.trans (if_pos c3)
      refine lv_iload_n hx hb d_Mo_plan_15 rfl (lv_at hl 2 rfl) ?_
      refine lv_if_eq (tgt := 30) hx hb d_Mo_plan_16 (by decide) (fun c4 => ?_) (fun c4 => ?_)
      · have hp := hp.1 c4
        have hf := hf.trans (if_pos c4)
        exact w_Mo_plan_J30 hC hr hlk M j x1 x2 x3 _ _ ls hw (lv_sub hl [0, 1, 2, 3] rfl) hj hp hf
      · have hp := hp.2 c4
        have hf := hf.trans (if_neg c4)
        refine lv_iload_n hx hb d_Mo_plan_19 rfl (lv_at hl 2 rfl) ?_
        refine lv_iconst (v := 5) hx hb d_Mo_plan_20 (by decide) ?_
        refine lv_icmp_eq (tgt := 30) hx hb d_Mo_plan_21 (by decide) (fun c5 => ?_) (fun c5 => ?_)
        · have hp := hp.1 c5
          have hf := hf.trans (if_pos c5)
          exact w_Mo_plan_J30 hC hr hlk M j x1 x2 x3 _ _ ls hw (lv_sub hl [0, 1, 2, 3] rfl) hj hp hf
        · have hp := hp.2 c5
          have hf := hf.trans (if_neg c5)
          refine lv_iload_n hx hb d_Mo_plan_24 rfl (lv_at hl 2 rfl) ?_
          refine lv_bipush (v := 6) hx hb d_Mo_plan_25 (by decide) ?_
          refine lv_icmp_ne (tgt := 43) hx hb d_Mo_plan_27 (by decide) (fun c6 => ?_) (fun c6 => ?_)
          · have hp := hp.2 c6
            have hf := hf.trans (if_neg c6)
            exact w_Mo_plan_J43 hC hr hlk M  _ _ ls hw (lv_sub hl [] rfl) hf
          · have hp := hp.1 c6
            have hf := hf.trans (if_pos c6)
            exact w_Mo_plan_J30 hC hr hlk M j x1 x2 x3 _ _ ls hw (lv_sub hl [0, 1, 2, 3] rfl) hj hp hf
theorem d_Mo_finish_0 : decode prog_8_method_18_code 0 = .ok (.aload_n 0, 1) := by decide +kernel
theorem d_Mo_finish_1 : decode prog_8_method_18_code 1 = .ok (.getfield 68, 3) := by decide +kernel
theorem d_Mo_finish_4 : decode prog_8_method_18_code 4 = .ok (.iload_n 1, 1) := by decide +kernel
theorem d_Mo_finish_5 : decode prog_8_method_18_code 5 = .ok (.iaload, 1) := by decide +kernel
theorem d_Mo_finish_6 : decode prog_8_method_18_code 6 = .ok (.iconst 1, 1) := by decide +kernel
theorem d_Mo_finish_7 : decode prog_8_method_18_code 7 = .ok (.if_icmp .ne 46, 3) := by decide +kernel
theorem d_Mo_finish_10 : decode prog_8_method_18_code 10 = .ok (.aload_n 0, 1) := by decide +kernel
theorem d_Mo_finish_11 : decode prog_8_method_18_code 11 = .ok (.getfield 65, 3) := by decide +kernel
theorem d_Mo_finish_14 : decode prog_8_method_18_code 14 = .ok (.bipush 9, 2) := by decide +kernel
theorem d_Mo_finish_16 : decode prog_8_method_18_code 16 = .ok (.iload_n 1, 1) := by decide +kernel
theorem d_Mo_finish_17 : decode prog_8_method_18_code 17 = .ok (.imul, 1) := by decide +kernel
theorem d_Mo_finish_18 : decode prog_8_method_18_code 18 = .ok (.iaload, 1) := by decide +kernel
theorem d_Mo_finish_19 : decode prog_8_method_18_code 19 = .ok (.aload_n 0, 1) := by decide +kernel
theorem d_Mo_finish_20 : decode prog_8_method_18_code 20 = .ok (.getfield 47, 3) := by decide +kernel
theorem d_Mo_finish_23 : decode prog_8_method_18_code 23 = .ok (.iload_n 1, 1) := by decide +kernel
theorem d_Mo_finish_24 : decode prog_8_method_18_code 24 = .ok (.iaload, 1) := by decide +kernel
theorem d_Mo_finish_25 : decode prog_8_method_18_code 25 = .ok (.if_icmp .lt 28, 3) := by decide +kernel
theorem d_Mo_finish_28 : decode prog_8_method_18_code 28 = .ok (.aload_n 0, 1) := by decide +kernel
theorem d_Mo_finish_29 : decode prog_8_method_18_code 29 = .ok (.getfield 71, 3) := by decide +kernel
theorem d_Mo_finish_32 : decode prog_8_method_18_code 32 = .ok (.iload_n 1, 1) := by decide +kernel
theorem d_Mo_finish_33 : decode prog_8_method_18_code 33 = .ok (.iaload, 1) := by decide +kernel
theorem d_Mo_finish_34 : decode prog_8_method_18_code 34 = .ok (.ifCond .ge 19, 3) := by decide +kernel
theorem d_Mo_finish_37 : decode prog_8_method_18_code 37 = .ok (.aload_n 0, 1) := by decide +kernel
theorem d_Mo_finish_38 : decode prog_8_method_18_code 38 = .ok (.getfield 74, 3) := by decide +kernel
theorem d_Mo_finish_41 : decode prog_8_method_18_code 41 = .ok (.iload_n 1, 1) := by decide +kernel
theorem d_Mo_finish_42 : decode prog_8_method_18_code 42 = .ok (.iaload, 1) := by decide +kernel
theorem d_Mo_finish_43 : decode prog_8_method_18_code 43 = .ok (.ifCond .ge 10, 3) := by decide +kernel
theorem d_Mo_finish_46 : decode prog_8_method_18_code 46 = .ok (.aload_n 0, 1) := by decide +kernel
theorem d_Mo_finish_47 : decode prog_8_method_18_code 47 = .ok (.getfield 74, 3) := by decide +kernel
theorem d_Mo_finish_50 : decode prog_8_method_18_code 50 = .ok (.iload_n 1, 1) := by decide +kernel
theorem d_Mo_finish_51 : decode prog_8_method_18_code 51 = .ok (.iconst 0, 1) := by decide +kernel
theorem d_Mo_finish_52 : decode prog_8_method_18_code 52 = .ok (.iastore, 1) := by decide +kernel
theorem d_Mo_finish_53 : decode prog_8_method_18_code 53 = .ok (.return_, 1) := by decide +kernel
def f_Mo_finish (M : cs_Mem) (j : Nat) (x1 : Int32) : cs_Mem :=
  if (M 82 x1.toNatClampNeg) = 1 then
    if (M 81 (9 * x1).toNatClampNeg) < (M 75 x1.toNatClampNeg) then
      M
    else
      if 0 ≤ (M 83 x1.toNatClampNeg) then
        M
      else
        if 0 ≤ (M 84 x1.toNatClampNeg) then
          M
        else
          cs_bd (cs_up M 84 (upd (M 84) x1.toNatClampNeg 0)) fun (N11 : cs_Mem) =>
          N11
  else
    M
def pre_Mo_finish (M : cs_Mem) (j : Nat) (x1 : Int32) : Prop :=
  (vp_in x1 (cs_ln M 82)) ∧
  ((M 82 x1.toNatClampNeg) = 1 →
    (vp_in (9 * x1) (cs_ln M 81)) ∧
    (vp_in x1 (cs_ln M 75)) ∧
    ((M 81 (9 * x1).toNatClampNeg) < (M 75 x1.toNatClampNeg) →
      True
    ) ∧ (¬ ((M 81 (9 * x1).toNatClampNeg) < (M 75 x1.toNatClampNeg)) →
      (vp_in x1 (cs_ln M 83)) ∧
      (0 ≤ (M 83 x1.toNatClampNeg) →
        True
      ) ∧ (¬ (0 ≤ (M 83 x1.toNatClampNeg)) →
        (vp_in x1 (cs_ln M 84)) ∧
        (0 ≤ (M 84 x1.toNatClampNeg) →
          True
        ) ∧ (¬ (0 ≤ (M 84 x1.toNatClampNeg)) →
          (vp_in x1 (cs_ln M 84)) ∧
          True
        )
      )
    )
  ) ∧ (¬ ((M 82 x1.toNatClampNeg) = 1) →
    True
  )
set_option maxHeartbeats 4000000 in
set_option maxRecDepth 100000 in
theorem c_Mo_finish (l : Launch) (D : va_G) (cA : Nat → ClassId) (ad : Nat → Nat) (M : cs_Mem) (j : Nat) (hj : cs_is 5 j) (x1 : Int32) (hp : pre_Mo_finish M j x1) : cs_Cv l ⟨"ClassStarterModel", "finish", "(I)V"⟩ prog_8_method_18_code 2 none ({ frames := 0, cells := 0, slots := 0, locals := 0 }) D cA ad M [.ref (ad j), .int x1] (f_Mo_finish M j x1) := by
  refine cs_entry (by decide) (Nat.le_of_ble_eq_true rfl) (fun p e s m below meth c A ls hC hr hlk _ hw hl => ?_)
  have hx := hC.1
  have hb := hC.2.1
  have hl : lv_has ls 2 [(0, .ref (ad j)), (1, .int x1)] := hl
  generalize hF : f_Mo_finish M j x1 = F
  have hf := hF.symm
  unfold f_Mo_finish at hf
  unfold pre_Mo_finish at hp
  refine lv_aload_n hx hb d_Mo_finish_0 rfl (lv_at hl 0 rfl) ?_
  refine gf_Mo_frames hC hw hj wd_571 d_Mo_finish_1 ?_
  refine lv_iload_n hx hb d_Mo_finish_4 rfl (lv_at hl 1 rfl) ?_
  have o1 := hp.1
  have hp := hp.2
  refine cs_iald hC hw is_82 o1 d_Mo_finish_5 ?_
  refine lv_iconst (v := 1) hx hb d_Mo_finish_6 (by decide) ?_
  refine lv_icmp_ne (tgt := 53) hx hb d_Mo_finish_7 (by decide) (fun c2 => ?_) (fun c2 => ?_)
  · have hp := hp.2 c2
    have hf := hf.trans (if_neg c2)
    exact cs_vret hC hw hr hlk hf d_Mo_finish_53
  · have hp := hp.1 c2
    have hf := hf.trans (if_pos c2)
    refine lv_aload_n hx hb d_Mo_finish_10 rfl (lv_at hl 0 rfl) ?_
    refine gf_Mo_part hC hw hj wd_570 d_Mo_finish_11 ?_
    refine lv_bipush (v := 9) hx hb d_Mo_finish_14 (by decide) ?_
    refine lv_iload_n hx hb d_Mo_finish_16 rfl (lv_at hl 1 rfl) ?_
    refine lv_imul hx hb d_Mo_finish_17 ?_
    have o3 := hp.1
    have hp := hp.2
    refine cs_iald hC hw is_81 o3 d_Mo_finish_18 ?_
    refine lv_aload_n hx hb d_Mo_finish_19 rfl (lv_at hl 0 rfl) ?_
    refine gf_Mo_planCount hC hw hj wd_562 d_Mo_finish_20 ?_
    refine lv_iload_n hx hb d_Mo_finish_23 rfl (lv_at hl 1 rfl) ?_
    have o4 := hp.1
    have hp := hp.2
    refine cs_iald hC hw is_75 o4 d_Mo_finish_24 ?_
    refine lv_icmp_lt (tgt := 53) hx hb d_Mo_finish_25 (by decide) (fun c5 => ?_) (fun c5 => ?_)
    · have hp := hp.1 c5
      have hf := hf.trans (if_pos c5)
      exact cs_vret hC hw hr hlk hf d_Mo_finish_53
    · have hp := hp.2 c5
      have hf := hf.trans (if_neg c5)
      refine lv_aload_n hx hb d_Mo_finish_28 rfl (lv_at hl 0 rfl) ?_
      refine gf_Mo_pending hC hw hj wd_572 d_Mo_finish_29 ?_
      refine lv_iload_n hx hb d_Mo_finish_32 rfl (lv_at hl 1 rfl) ?_
      have o6 := hp.1
      have hp := hp.2
      refine cs_iald hC hw is_83 o6 d_Mo_finish_33 ?_
      refine lv_if_ge (tgt := 53) hx hb d_Mo_finish_34 (by decide) (fun c7 => ?_) (fun c7 => ?_)
      · have hp := hp.1 c7
        have hf := hf.trans (if_pos c7)
        exact cs_vret hC hw hr hlk hf d_Mo_finish_53
      · have hp := hp.2 c7
        have hf := hf.trans (if_neg c7)
        refine lv_aload_n hx hb d_Mo_finish_37 rfl (lv_at hl 0 rfl) ?_
        refine gf_Mo_ended hC hw hj wd_573 d_Mo_finish_38 ?_
        refine lv_iload_n hx hb d_Mo_finish_41 rfl (lv_at hl 1 rfl) ?_
        have o8 := hp.1
        have hp := hp.2
        refine cs_iald hC hw is_84 o8 d_Mo_finish_42 ?_
        refine lv_if_ge (tgt := 53) hx hb d_Mo_finish_43 (by decide) (fun c9 => ?_) (fun c9 => ?_)
        · have hp := hp.1 c9
          have hf := hf.trans (if_pos c9)
          exact cs_vret hC hw hr hlk hf d_Mo_finish_53
        · have hp := hp.2 c9
          have hf := hf.trans (if_neg c9)
          refine lv_aload_n hx hb d_Mo_finish_46 rfl (lv_at hl 0 rfl) ?_
          refine gf_Mo_ended hC hw hj wd_573 d_Mo_finish_47 ?_
          refine lv_iload_n hx hb d_Mo_finish_50 rfl (lv_at hl 1 rfl) ?_
          refine lv_iconst (v := 0) hx hb d_Mo_finish_51 (by decide) ?_
          have o10 := hp.1
          have hp := hp.2
          refine cs_iast hC hw is_84 o10 d_Mo_finish_52 (fun N11 H locs eN11 hw => ?_)
          have hf := cs_bdE eN11 hf
          exact cs_vret hC hw hr hlk hf d_Mo_finish_53
theorem d_Mo_start_0 : decode prog_8_method_8_code 0 = .ok (.iconst 0, 1) := by decide +kernel
theorem d_Mo_start_1 : decode prog_8_method_8_code 1 = .ok (.istore_n 1, 1) := by decide +kernel
theorem d_Mo_start_2 : decode prog_8_method_8_code 2 = .ok (.iload_n 1, 1) := by decide +kernel
theorem d_Mo_start_3 : decode prog_8_method_8_code 3 = .ok (.bipush 8, 2) := by decide +kernel
theorem d_Mo_start_5 : decode prog_8_method_8_code 5 = .ok (.if_icmp .ge 41, 3) := by decide +kernel
theorem d_Mo_start_8 : decode prog_8_method_8_code 8 = .ok (.aload_n 0, 1) := by decide +kernel
theorem d_Mo_start_9 : decode prog_8_method_8_code 9 = .ok (.getfield 56, 3) := by decide +kernel
theorem d_Mo_start_12 : decode prog_8_method_8_code 12 = .ok (.iload_n 1, 1) := by decide +kernel
theorem d_Mo_start_13 : decode prog_8_method_8_code 13 = .ok (.iconst 0, 1) := by decide +kernel
theorem d_Mo_start_14 : decode prog_8_method_8_code 14 = .ok (.iastore, 1) := by decide +kernel
theorem d_Mo_start_15 : decode prog_8_method_8_code 15 = .ok (.aload_n 0, 1) := by decide +kernel
theorem d_Mo_start_16 : decode prog_8_method_8_code 16 = .ok (.getfield 59, 3) := by decide +kernel
theorem d_Mo_start_19 : decode prog_8_method_8_code 19 = .ok (.iconst 2, 1) := by decide +kernel
theorem d_Mo_start_20 : decode prog_8_method_8_code 20 = .ok (.iload_n 1, 1) := by decide +kernel
theorem d_Mo_start_21 : decode prog_8_method_8_code 21 = .ok (.imul, 1) := by decide +kernel
theorem d_Mo_start_22 : decode prog_8_method_8_code 22 = .ok (.iconst 0, 1) := by decide +kernel
theorem d_Mo_start_23 : decode prog_8_method_8_code 23 = .ok (.iastore, 1) := by decide +kernel
theorem d_Mo_start_24 : decode prog_8_method_8_code 24 = .ok (.aload_n 0, 1) := by decide +kernel
theorem d_Mo_start_25 : decode prog_8_method_8_code 25 = .ok (.getfield 59, 3) := by decide +kernel
theorem d_Mo_start_28 : decode prog_8_method_8_code 28 = .ok (.iconst 2, 1) := by decide +kernel
theorem d_Mo_start_29 : decode prog_8_method_8_code 29 = .ok (.iload_n 1, 1) := by decide +kernel
theorem d_Mo_start_30 : decode prog_8_method_8_code 30 = .ok (.imul, 1) := by decide +kernel
theorem d_Mo_start_31 : decode prog_8_method_8_code 31 = .ok (.iconst 1, 1) := by decide +kernel
theorem d_Mo_start_32 : decode prog_8_method_8_code 32 = .ok (.iadd, 1) := by decide +kernel
theorem d_Mo_start_33 : decode prog_8_method_8_code 33 = .ok (.aload_n 0, 1) := by decide +kernel
theorem d_Mo_start_34 : decode prog_8_method_8_code 34 = .ok (.getfield 13, 3) := by decide +kernel
theorem d_Mo_start_37 : decode prog_8_method_8_code 37 = .ok (.iload_n 1, 1) := by decide +kernel
theorem d_Mo_start_38 : decode prog_8_method_8_code 38 = .ok (.iaload, 1) := by decide +kernel
theorem d_Mo_start_39 : decode prog_8_method_8_code 39 = .ok (.iastore, 1) := by decide +kernel
theorem d_Mo_start_40 : decode prog_8_method_8_code 40 = .ok (.iinc 1 1, 3) := by decide +kernel
theorem d_Mo_start_43 : decode prog_8_method_8_code 43 = .ok (.goto (-41), 3) := by decide +kernel
theorem d_Mo_start_46 : decode prog_8_method_8_code 46 = .ok (.iconst 0, 1) := by decide +kernel
theorem d_Mo_start_47 : decode prog_8_method_8_code 47 = .ok (.istore_n 1, 1) := by decide +kernel
theorem d_Mo_start_48 : decode prog_8_method_8_code 48 = .ok (.iload_n 1, 1) := by decide +kernel
theorem d_Mo_start_49 : decode prog_8_method_8_code 49 = .ok (.iconst 3, 1) := by decide +kernel
theorem d_Mo_start_50 : decode prog_8_method_8_code 50 = .ok (.if_icmp .ge 50, 3) := by decide +kernel
theorem d_Mo_start_53 : decode prog_8_method_8_code 53 = .ok (.aload_n 0, 1) := by decide +kernel
theorem d_Mo_start_54 : decode prog_8_method_8_code 54 = .ok (.getfield 68, 3) := by decide +kernel
theorem d_Mo_start_57 : decode prog_8_method_8_code 57 = .ok (.iload_n 1, 1) := by decide +kernel
theorem d_Mo_start_58 : decode prog_8_method_8_code 58 = .ok (.iconst 1, 1) := by decide +kernel
theorem d_Mo_start_59 : decode prog_8_method_8_code 59 = .ok (.iastore, 1) := by decide +kernel
theorem d_Mo_start_60 : decode prog_8_method_8_code 60 = .ok (.aload_n 0, 1) := by decide +kernel
theorem d_Mo_start_61 : decode prog_8_method_8_code 61 = .ok (.getfield 62, 3) := by decide +kernel
theorem d_Mo_start_64 : decode prog_8_method_8_code 64 = .ok (.bipush 9, 2) := by decide +kernel
theorem d_Mo_start_66 : decode prog_8_method_8_code 66 = .ok (.iload_n 1, 1) := by decide +kernel
theorem d_Mo_start_67 : decode prog_8_method_8_code 67 = .ok (.imul, 1) := by decide +kernel
theorem d_Mo_start_68 : decode prog_8_method_8_code 68 = .ok (.iconst (-1), 1) := by decide +kernel
theorem d_Mo_start_69 : decode prog_8_method_8_code 69 = .ok (.iastore, 1) := by decide +kernel
theorem d_Mo_start_70 : decode prog_8_method_8_code 70 = .ok (.aload_n 0, 1) := by decide +kernel
theorem d_Mo_start_71 : decode prog_8_method_8_code 71 = .ok (.getfield 65, 3) := by decide +kernel
theorem d_Mo_start_74 : decode prog_8_method_8_code 74 = .ok (.bipush 9, 2) := by decide +kernel
theorem d_Mo_start_76 : decode prog_8_method_8_code 76 = .ok (.iload_n 1, 1) := by decide +kernel
theorem d_Mo_start_77 : decode prog_8_method_8_code 77 = .ok (.imul, 1) := by decide +kernel
theorem d_Mo_start_78 : decode prog_8_method_8_code 78 = .ok (.iconst 0, 1) := by decide +kernel
theorem d_Mo_start_79 : decode prog_8_method_8_code 79 = .ok (.iastore, 1) := by decide +kernel
theorem d_Mo_start_80 : decode prog_8_method_8_code 80 = .ok (.aload_n 0, 1) := by decide +kernel
theorem d_Mo_start_81 : decode prog_8_method_8_code 81 = .ok (.getfield 71, 3) := by decide +kernel
theorem d_Mo_start_84 : decode prog_8_method_8_code 84 = .ok (.iload_n 1, 1) := by decide +kernel
theorem d_Mo_start_85 : decode prog_8_method_8_code 85 = .ok (.iconst (-1), 1) := by decide +kernel
theorem d_Mo_start_86 : decode prog_8_method_8_code 86 = .ok (.iastore, 1) := by decide +kernel
theorem d_Mo_start_87 : decode prog_8_method_8_code 87 = .ok (.aload_n 0, 1) := by decide +kernel
theorem d_Mo_start_88 : decode prog_8_method_8_code 88 = .ok (.getfield 74, 3) := by decide +kernel
theorem d_Mo_start_91 : decode prog_8_method_8_code 91 = .ok (.iload_n 1, 1) := by decide +kernel
theorem d_Mo_start_92 : decode prog_8_method_8_code 92 = .ok (.iconst (-1), 1) := by decide +kernel
theorem d_Mo_start_93 : decode prog_8_method_8_code 93 = .ok (.iastore, 1) := by decide +kernel
theorem d_Mo_start_94 : decode prog_8_method_8_code 94 = .ok (.iinc 1 1, 3) := by decide +kernel
theorem d_Mo_start_97 : decode prog_8_method_8_code 97 = .ok (.goto (-49), 3) := by decide +kernel
theorem d_Mo_start_100 : decode prog_8_method_8_code 100 = .ok (.aload_n 0, 1) := by decide +kernel
theorem d_Mo_start_101 : decode prog_8_method_8_code 101 = .ok (.iconst 0, 1) := by decide +kernel
theorem d_Mo_start_102 : decode prog_8_method_8_code 102 = .ok (.putfield 102, 3) := by decide +kernel
theorem d_Mo_start_105 : decode prog_8_method_8_code 105 = .ok (.iconst 0, 1) := by decide +kernel
theorem d_Mo_start_106 : decode prog_8_method_8_code 106 = .ok (.istore_n 1, 1) := by decide +kernel
theorem d_Mo_start_107 : decode prog_8_method_8_code 107 = .ok (.iload_n 1, 1) := by decide +kernel
theorem d_Mo_start_108 : decode prog_8_method_8_code 108 = .ok (.iconst 3, 1) := by decide +kernel
theorem d_Mo_start_109 : decode prog_8_method_8_code 109 = .ok (.if_icmp .ge 14, 3) := by decide +kernel
theorem d_Mo_start_112 : decode prog_8_method_8_code 112 = .ok (.aload_n 0, 1) := by decide +kernel
theorem d_Mo_start_113 : decode prog_8_method_8_code 113 = .ok (.iload_n 1, 1) := by decide +kernel
theorem d_Mo_start_114 : decode prog_8_method_8_code 114 = .ok (.invokevirtual 105, 3) := by decide +kernel
theorem d_Mo_start_117 : decode prog_8_method_8_code 117 = .ok (.iinc 1 1, 3) := by decide +kernel
theorem d_Mo_start_120 : decode prog_8_method_8_code 120 = .ok (.goto (-13), 3) := by decide +kernel
theorem d_Mo_start_123 : decode prog_8_method_8_code 123 = .ok (.return_, 1) := by decide +kernel
def f_Mo_start_L107 : Nat → cs_Mem → Nat → Int32 → cs_Mem
  | 0, M, j, y1 => M
  | fuel + 1, M, j, y1 =>
    if 3 ≤ y1 then
      M
    else
      cs_bd (f_Mo_finish M j y1) fun (u25 : cs_Mem) =>
      cs_bd (y1 + 1) fun (z26 : Int32) =>
      f_Mo_start_L107 fuel u25 j z26
def pre_Mo_start_L107 : Nat → cs_Mem → Nat → Int32 → Prop
  | 0, _, _, _ => False
  | fuel + 1, M, j, y1 =>
    (3 ≤ y1 →
      True
    ) ∧ (¬ (3 ≤ y1) →
      (pre_Mo_finish M j y1) ∧
      cs_bd (f_Mo_finish M j y1) fun (u25 : cs_Mem) =>
      cs_bd (y1 + 1) fun (z26 : Int32) =>
      pre_Mo_start_L107 fuel u25 j z26
    )
def f_Mo_start_L48 : Nat → cs_Mem → Nat → Int32 → cs_Mem
  | 0, M, j, y1 => M
  | fuel + 1, M, j, y1 =>
    if 3 ≤ y1 then
      cs_bd (cs_up M j (upd (M j) 26 0)) fun (N11 : cs_Mem) =>
      f_Mo_start_L107 10 N11 j 0
    else
      cs_bd (cs_up M 82 (upd (M 82) y1.toNatClampNeg 1)) fun (N13 : cs_Mem) =>
      cs_bd (cs_up N13 80 (upd (N13 80) (9 * y1).toNatClampNeg (-1))) fun (N15 : cs_Mem) =>
      cs_bd (cs_up N15 81 (upd (N15 81) (9 * y1).toNatClampNeg 0)) fun (N17 : cs_Mem) =>
      cs_bd (cs_up N17 83 (upd (N17 83) y1.toNatClampNeg (-1))) fun (N19 : cs_Mem) =>
      cs_bd (cs_up N19 84 (upd (N19 84) y1.toNatClampNeg (-1))) fun (N21 : cs_Mem) =>
      cs_bd (y1 + 1) fun (z22 : Int32) =>
      f_Mo_start_L48 fuel N21 j z22
def pre_Mo_start_L48 : Nat → cs_Mem → Nat → Int32 → Prop
  | 0, _, _, _ => False
  | fuel + 1, M, j, y1 =>
    (3 ≤ y1 →
      cs_bd (cs_up M j (upd (M j) 26 0)) fun (N11 : cs_Mem) =>
      pre_Mo_start_L107 10 N11 j 0
    ) ∧ (¬ (3 ≤ y1) →
      (vp_in y1 (cs_ln M 82)) ∧
      cs_bd (cs_up M 82 (upd (M 82) y1.toNatClampNeg 1)) fun (N13 : cs_Mem) =>
      (vp_in (9 * y1) (cs_ln N13 80)) ∧
      cs_bd (cs_up N13 80 (upd (N13 80) (9 * y1).toNatClampNeg (-1))) fun (N15 : cs_Mem) =>
      (vp_in (9 * y1) (cs_ln N15 81)) ∧
      cs_bd (cs_up N15 81 (upd (N15 81) (9 * y1).toNatClampNeg 0)) fun (N17 : cs_Mem) =>
      (vp_in y1 (cs_ln N17 83)) ∧
      cs_bd (cs_up N17 83 (upd (N17 83) y1.toNatClampNeg (-1))) fun (N19 : cs_Mem) =>
      (vp_in y1 (cs_ln N19 84)) ∧
      cs_bd (cs_up N19 84 (upd (N19 84) y1.toNatClampNeg (-1))) fun (N21 : cs_Mem) =>
      cs_bd (y1 + 1) fun (z22 : Int32) =>
      pre_Mo_start_L48 fuel N21 j z22
    )
def f_Mo_start_L2 : Nat → cs_Mem → Nat → Int32 → cs_Mem
  | 0, M, j, y1 => M
  | fuel + 1, M, j, y1 =>
    if 8 ≤ y1 then
      f_Mo_start_L48 10 M j 0
    else
      cs_bd (cs_up M 78 (upd (M 78) y1.toNatClampNeg 0)) fun (N3 : cs_Mem) =>
      cs_bd (cs_up N3 79 (upd (N3 79) (2 * y1).toNatClampNeg 0)) fun (N5 : cs_Mem) =>
      cs_bd (cs_up N5 79 (upd (N5 79) ((2 * y1) + 1).toNatClampNeg (N5 64 y1.toNatClampNeg))) fun (N8 : cs_Mem) =>
      cs_bd (y1 + 1) fun (z9 : Int32) =>
      f_Mo_start_L2 fuel N8 j z9
def pre_Mo_start_L2 : Nat → cs_Mem → Nat → Int32 → Prop
  | 0, _, _, _ => False
  | fuel + 1, M, j, y1 =>
    (8 ≤ y1 →
      pre_Mo_start_L48 10 M j 0
    ) ∧ (¬ (8 ≤ y1) →
      (vp_in y1 (cs_ln M 78)) ∧
      cs_bd (cs_up M 78 (upd (M 78) y1.toNatClampNeg 0)) fun (N3 : cs_Mem) =>
      (vp_in (2 * y1) (cs_ln N3 79)) ∧
      cs_bd (cs_up N3 79 (upd (N3 79) (2 * y1).toNatClampNeg 0)) fun (N5 : cs_Mem) =>
      (vp_in y1 (cs_ln N5 64)) ∧
      (vp_in ((2 * y1) + 1) (cs_ln N5 79)) ∧
      cs_bd (cs_up N5 79 (upd (N5 79) ((2 * y1) + 1).toNatClampNeg (N5 64 y1.toNatClampNeg))) fun (N8 : cs_Mem) =>
      cs_bd (y1 + 1) fun (z9 : Int32) =>
      pre_Mo_start_L2 fuel N8 j z9
    )
def f_Mo_start (M : cs_Mem) (j : Nat) : cs_Mem :=
  f_Mo_start_L2 10 M j 0
def pre_Mo_start (M : cs_Mem) (j : Nat) : Prop :=
  pre_Mo_start_L2 10 M j 0
set_option maxHeartbeats 4000000 in
set_option maxRecDepth 100000 in
theorem w_Mo_start_L107 {p : Program} {l : Launch} {e : Env} {s : State} {m : MethodId} {args : Array Value} {below : List Frame} {meth : Method} {c : Code} {D : va_G} {cA : Nat → ClassId} {A : Nat → Prop} {ad : Nat → Nat} {F : cs_Mem} (hC : cs_Ctx p s m args c prog_8_method_8_code 2 "ClassStarterModel" D cA A) (hr : meth.sig.returnType = none) (hlk : meth.locks = false) (fuel : Nat) : ∀ (M : cs_Mem) (j : Nat) (y1 : Int32) (H : Heap) (locs : List Loc) (ls : Array Slot), cs_Wd D cA ad M A s H locs → lv_has ls 2 [(0, .ref (ad j)), (1, .int y1)] → cs_is 5 j → pre_Mo_start_L107 fuel M j y1 → F = f_Mo_start_L107 fuel M j y1 → W p l e ({ frames := 1, cells := 0, slots := 0, locals := 21 }) s m args below meth c H locs 0 0 (MQ below (cs_Qv D cA ad F A) args s 0 0 A) (F0 m 107 ls []) := by
  have hx := hC.1
  have hb := hC.2.1
  induction fuel with
  | zero =>
    intro M j y1 H locs ls hw hl g0 hp hf
    exact absurd hp (by simp [pre_Mo_start_L107])
  | succ fuel ih =>
    intro M j y1 H locs ls hw hl g0 hp hf
    rw [f_Mo_start_L107] at hf
    rw [pre_Mo_start_L107] at hp
    refine lv_iload_n hx hb d_Mo_start_107 rfl (lv_at hl 1 rfl) ?_
    refine lv_iconst (v := 3) hx hb d_Mo_start_108 (by decide) ?_
    refine lv_icmp_ge (tgt := 123) hx hb d_Mo_start_109 (by decide) (fun c23 => ?_) (fun c23 => ?_)
    · have hp := hp.1 c23
      have hf := hf.trans (if_pos c23)
      exact cs_vret hC hw hr hlk hf d_Mo_start_123
    · have hp := hp.2 c23
      have hf := hf.trans (if_neg c23)
      refine lv_aload_n hx hb d_Mo_start_112 rfl (lv_at hl 0 rfl) ?_
      refine lv_iload_n hx hb d_Mo_start_113 rfl (lv_at hl 1 rfl) ?_
      have o24 := hp.1
      have hp := hp.2
      refine cs_ret_v hC hw (cs_runV (As := [.int y1]) (rest := []) hC hw g0.2 (ci := 5) rfl rfl (cs_sg_is g0) (c_Mo_finish l D cA ad M j g0 y1 o24 _) rfl rfl cw_Mo_105 ⟨Nat.le_of_ble_eq_true rfl, Nat.le_of_ble_eq_true rfl⟩ hl.1 rfl rfl (Nat.le_of_ble_eq_true rfl) d_Mo_start_114 ⟨Nat.zero_le _, Nat.zero_le _⟩) (fun u25 H locs eu25 hw => ?_)
      have hp := cs_bdP eu25 hp
      have hf := cs_bdE eu25 hf
      obtain ⟨z26, ez26⟩ : ∃ y : Int32, y = y1 + 1 := ⟨_, rfl⟩
      have hp := cs_bdP ez26 hp
      have hf := cs_bdE ez26 hf
      refine lv_iinc (v := z26) (lv' := [(1, .int z26), (0, .ref (ad j))]) hx hb d_Mo_start_117 hl (k := 1) rfl (by rw [ez26]; rfl) (by decide) rfl (fun ls hl => ?_)
      refine lv_goto (tgt := 107) hx hb d_Mo_start_120 (by decide) ?_
      exact ih u25 j z26 _ _ ls hw (lv_sub hl [1, 0] rfl) g0 hp hf
set_option maxHeartbeats 4000000 in
set_option maxRecDepth 100000 in
theorem w_Mo_start_L48 {p : Program} {l : Launch} {e : Env} {s : State} {m : MethodId} {args : Array Value} {below : List Frame} {meth : Method} {c : Code} {D : va_G} {cA : Nat → ClassId} {A : Nat → Prop} {ad : Nat → Nat} {F : cs_Mem} (hC : cs_Ctx p s m args c prog_8_method_8_code 2 "ClassStarterModel" D cA A) (hr : meth.sig.returnType = none) (hlk : meth.locks = false) (fuel : Nat) : ∀ (M : cs_Mem) (j : Nat) (y1 : Int32) (H : Heap) (locs : List Loc) (ls : Array Slot), cs_Wd D cA ad M A s H locs → lv_has ls 2 [(0, .ref (ad j)), (1, .int y1)] → cs_is 5 j → pre_Mo_start_L48 fuel M j y1 → F = f_Mo_start_L48 fuel M j y1 → W p l e ({ frames := 1, cells := 0, slots := 0, locals := 21 }) s m args below meth c H locs 0 0 (MQ below (cs_Qv D cA ad F A) args s 0 0 A) (F0 m 48 ls []) := by
  have hx := hC.1
  have hb := hC.2.1
  induction fuel with
  | zero =>
    intro M j y1 H locs ls hw hl g0 hp hf
    exact absurd hp (by simp [pre_Mo_start_L48])
  | succ fuel ih =>
    intro M j y1 H locs ls hw hl g0 hp hf
    rw [f_Mo_start_L48] at hf
    rw [pre_Mo_start_L48] at hp
    refine lv_iload_n hx hb d_Mo_start_48 rfl (lv_at hl 1 rfl) ?_
    refine lv_iconst (v := 3) hx hb d_Mo_start_49 (by decide) ?_
    refine lv_icmp_ge (tgt := 100) hx hb d_Mo_start_50 (by decide) (fun c10 => ?_) (fun c10 => ?_)
    · have hp := hp.1 c10
      have hf := hf.trans (if_pos c10)
      refine lv_aload_n hx hb d_Mo_start_100 rfl (lv_at hl 0 rfl) ?_
      refine lv_iconst (v := 0) hx hb d_Mo_start_101 (by decide) ?_
      refine pf_Mo_logs hC hw g0 wd_575 d_Mo_start_102 (fun N11 H locs eN11 hw => ?_)
      have hp := cs_bdP eN11 hp
      have hf := cs_bdE eN11 hf
      refine lv_iconst (v := 0) hx hb d_Mo_start_105 (by decide) ?_
      refine lv_istore_n (lv' := [(1, .int 0), (0, .ref (ad j))]) hx hb d_Mo_start_106 rfl hl (by decide) rfl (fun ls hl => ?_)
      exact w_Mo_start_L107 hC hr hlk 10 N11 j 0 _ _ ls hw (lv_sub hl [1, 0] rfl) g0 hp hf
    · have hp := hp.2 c10
      have hf := hf.trans (if_neg c10)
      refine lv_aload_n hx hb d_Mo_start_53 rfl (lv_at hl 0 rfl) ?_
      refine gf_Mo_frames hC hw g0 wd_571 d_Mo_start_54 ?_
      refine lv_iload_n hx hb d_Mo_start_57 rfl (lv_at hl 1 rfl) ?_
      refine lv_iconst (v := 1) hx hb d_Mo_start_58 (by decide) ?_
      have o12 := hp.1
      have hp := hp.2
      refine cs_iast hC hw is_82 o12 d_Mo_start_59 (fun N13 H locs eN13 hw => ?_)
      have hp := cs_bdP eN13 hp
      have hf := cs_bdE eN13 hf
      refine lv_aload_n hx hb d_Mo_start_60 rfl (lv_at hl 0 rfl) ?_
      refine gf_Mo_frame hC hw g0 wd_569 d_Mo_start_61 ?_
      refine lv_bipush (v := 9) hx hb d_Mo_start_64 (by decide) ?_
      refine lv_iload_n hx hb d_Mo_start_66 rfl (lv_at hl 1 rfl) ?_
      refine lv_imul hx hb d_Mo_start_67 ?_
      refine lv_iconst (v := (-1)) hx hb d_Mo_start_68 (by decide) ?_
      have o14 := hp.1
      have hp := hp.2
      refine cs_iast hC hw is_80 o14 d_Mo_start_69 (fun N15 H locs eN15 hw => ?_)
      have hp := cs_bdP eN15 hp
      have hf := cs_bdE eN15 hf
      refine lv_aload_n hx hb d_Mo_start_70 rfl (lv_at hl 0 rfl) ?_
      refine gf_Mo_part hC hw g0 wd_570 d_Mo_start_71 ?_
      refine lv_bipush (v := 9) hx hb d_Mo_start_74 (by decide) ?_
      refine lv_iload_n hx hb d_Mo_start_76 rfl (lv_at hl 1 rfl) ?_
      refine lv_imul hx hb d_Mo_start_77 ?_
      refine lv_iconst (v := 0) hx hb d_Mo_start_78 (by decide) ?_
      have o16 := hp.1
      have hp := hp.2
      refine cs_iast hC hw is_81 o16 d_Mo_start_79 (fun N17 H locs eN17 hw => ?_)
      have hp := cs_bdP eN17 hp
      have hf := cs_bdE eN17 hf
      refine lv_aload_n hx hb d_Mo_start_80 rfl (lv_at hl 0 rfl) ?_
      refine gf_Mo_pending hC hw g0 wd_572 d_Mo_start_81 ?_
      refine lv_iload_n hx hb d_Mo_start_84 rfl (lv_at hl 1 rfl) ?_
      refine lv_iconst (v := (-1)) hx hb d_Mo_start_85 (by decide) ?_
      have o18 := hp.1
      have hp := hp.2
      refine cs_iast hC hw is_83 o18 d_Mo_start_86 (fun N19 H locs eN19 hw => ?_)
      have hp := cs_bdP eN19 hp
      have hf := cs_bdE eN19 hf
      refine lv_aload_n hx hb d_Mo_start_87 rfl (lv_at hl 0 rfl) ?_
      refine gf_Mo_ended hC hw g0 wd_573 d_Mo_start_88 ?_
      refine lv_iload_n hx hb d_Mo_start_91 rfl (lv_at hl 1 rfl) ?_
      refine lv_iconst (v := (-1)) hx hb d_Mo_start_92 (by decide) ?_
      have o20 := hp.1
      have hp := hp.2
      refine cs_iast hC hw is_84 o20 d_Mo_start_93 (fun N21 H locs eN21 hw => ?_)
      have hp := cs_bdP eN21 hp
      have hf := cs_bdE eN21 hf
      obtain ⟨z22, ez22⟩ : ∃ y : Int32, y = y1 + 1 := ⟨_, rfl⟩
      have hp := cs_bdP ez22 hp
      have hf := cs_bdE ez22 hf
      refine lv_iinc (v := z22) (lv' := [(1, .int z22), (0, .ref (ad j))]) hx hb d_Mo_start_94 hl (k := 1) rfl (by rw [ez22]; rfl) (by decide) rfl (fun ls hl => ?_)
      refine lv_goto (tgt := 48) hx hb d_Mo_start_97 (by decide) ?_
      exact ih N21 j z22 _ _ ls hw (lv_sub hl [1, 0] rfl) g0 hp hf
set_option maxHeartbeats 4000000 in
set_option maxRecDepth 100000 in
theorem w_Mo_start_L2 {p : Program} {l : Launch} {e : Env} {s : State} {m : MethodId} {args : Array Value} {below : List Frame} {meth : Method} {c : Code} {D : va_G} {cA : Nat → ClassId} {A : Nat → Prop} {ad : Nat → Nat} {F : cs_Mem} (hC : cs_Ctx p s m args c prog_8_method_8_code 2 "ClassStarterModel" D cA A) (hr : meth.sig.returnType = none) (hlk : meth.locks = false) (fuel : Nat) : ∀ (M : cs_Mem) (j : Nat) (y1 : Int32) (H : Heap) (locs : List Loc) (ls : Array Slot), cs_Wd D cA ad M A s H locs → lv_has ls 2 [(0, .ref (ad j)), (1, .int y1)] → cs_is 5 j → pre_Mo_start_L2 fuel M j y1 → F = f_Mo_start_L2 fuel M j y1 → W p l e ({ frames := 1, cells := 0, slots := 0, locals := 21 }) s m args below meth c H locs 0 0 (MQ below (cs_Qv D cA ad F A) args s 0 0 A) (F0 m 2 ls []) := by
  have hx := hC.1
  have hb := hC.2.1
  induction fuel with
  | zero =>
    intro M j y1 H locs ls hw hl g0 hp hf
    exact absurd hp (by simp [pre_Mo_start_L2])
  | succ fuel ih =>
    intro M j y1 H locs ls hw hl g0 hp hf
    rw [f_Mo_start_L2] at hf
    rw [pre_Mo_start_L2] at hp
    refine lv_iload_n hx hb d_Mo_start_2 rfl (lv_at hl 1 rfl) ?_
    refine lv_bipush (v := 8) hx hb d_Mo_start_3 (by decide) ?_
    refine lv_icmp_ge (tgt := 46) hx hb d_Mo_start_5 (by decide) (fun c1 => ?_) (fun c1 => ?_)
    · have hp := hp.1 c1
      have hf := hf.trans (if_pos c1)
      refine lv_iconst (v := 0) hx hb d_Mo_start_46 (by decide) ?_
      refine lv_istore_n (lv' := [(1, .int 0), (0, .ref (ad j))]) hx hb d_Mo_start_47 rfl hl (by decide) rfl (fun ls hl => ?_)
      exact w_Mo_start_L48 hC hr hlk 10 M j 0 _ _ ls hw (lv_sub hl [1, 0] rfl) g0 hp hf
    · have hp := hp.2 c1
      have hf := hf.trans (if_neg c1)
      refine lv_aload_n hx hb d_Mo_start_8 rfl (lv_at hl 0 rfl) ?_
      refine gf_Mo_state hC hw g0 wd_567 d_Mo_start_9 ?_
      refine lv_iload_n hx hb d_Mo_start_12 rfl (lv_at hl 1 rfl) ?_
      refine lv_iconst (v := 0) hx hb d_Mo_start_13 (by decide) ?_
      have o2 := hp.1
      have hp := hp.2
      refine cs_iast hC hw is_78 o2 d_Mo_start_14 (fun N3 H locs eN3 hw => ?_)
      have hp := cs_bdP eN3 hp
      have hf := cs_bdE eN3 hf
      refine lv_aload_n hx hb d_Mo_start_15 rfl (lv_at hl 0 rfl) ?_
      refine gf_Mo_statics hC hw g0 wd_568 d_Mo_start_16 ?_
      refine lv_iconst (v := 2) hx hb d_Mo_start_19 (by decide) ?_
      refine lv_iload_n hx hb d_Mo_start_20 rfl (lv_at hl 1 rfl) ?_
      refine lv_imul hx hb d_Mo_start_21 ?_
      refine lv_iconst (v := 0) hx hb d_Mo_start_22 (by decide) ?_
      have o4 := hp.1
      have hp := hp.2
      refine cs_iast hC hw is_79 o4 d_Mo_start_23 (fun N5 H locs eN5 hw => ?_)
      have hp := cs_bdP eN5 hp
      have hf := cs_bdE eN5 hf
      refine lv_aload_n hx hb d_Mo_start_24 rfl (lv_at hl 0 rfl) ?_
      refine gf_Mo_statics hC hw g0 wd_568 d_Mo_start_25 ?_
      refine lv_iconst (v := 2) hx hb d_Mo_start_28 (by decide) ?_
      refine lv_iload_n hx hb d_Mo_start_29 rfl (lv_at hl 1 rfl) ?_
      refine lv_imul hx hb d_Mo_start_30 ?_
      refine lv_iconst (v := 1) hx hb d_Mo_start_31 (by decide) ?_
      refine lv_iadd hx hb d_Mo_start_32 ?_
      refine lv_aload_n hx hb d_Mo_start_33 rfl (lv_at hl 0 rfl) ?_
      refine gf_Mo_constants hC hw g0 wd_551 d_Mo_start_34 ?_
      refine lv_iload_n hx hb d_Mo_start_37 rfl (lv_at hl 1 rfl) ?_
      have o6 := hp.1
      have hp := hp.2
      refine cs_iald hC hw is_64 o6 d_Mo_start_38 ?_
      have o7 := hp.1
      have hp := hp.2
      refine cs_iast hC hw is_79 o7 d_Mo_start_39 (fun N8 H locs eN8 hw => ?_)
      have hp := cs_bdP eN8 hp
      have hf := cs_bdE eN8 hf
      obtain ⟨z9, ez9⟩ : ∃ y : Int32, y = y1 + 1 := ⟨_, rfl⟩
      have hp := cs_bdP ez9 hp
      have hf := cs_bdE ez9 hf
      refine lv_iinc (v := z9) (lv' := [(1, .int z9), (0, .ref (ad j))]) hx hb d_Mo_start_40 hl (k := 1) rfl (by rw [ez9]; rfl) (by decide) rfl (fun ls hl => ?_)
      refine lv_goto (tgt := 2) hx hb d_Mo_start_43 (by decide) ?_
      exact ih N8 j z9 _ _ ls hw (lv_sub hl [1, 0] rfl) g0 hp hf
set_option maxHeartbeats 4000000 in
set_option maxRecDepth 100000 in
theorem c_Mo_start (l : Launch) (D : va_G) (cA : Nat → ClassId) (ad : Nat → Nat) (M : cs_Mem) (j : Nat) (hj : cs_is 5 j) (hp : pre_Mo_start M j) : cs_Cv l ⟨"ClassStarterModel", "start", "()V"⟩ prog_8_method_8_code 2 none ({ frames := 1, cells := 0, slots := 0, locals := 21 }) D cA ad M [.ref (ad j)] (f_Mo_start M j) := by
  refine cs_entry (by decide) (Nat.le_of_ble_eq_true rfl) (fun p e s m below meth c A ls hC hr hlk _ hw hl => ?_)
  have hx := hC.1
  have hb := hC.2.1
  have hl : lv_has ls 2 [(0, .ref (ad j))] := hl
  generalize hF : f_Mo_start M j = F
  have hf := hF.symm
  unfold f_Mo_start at hf
  unfold pre_Mo_start at hp
  refine lv_iconst (v := 0) hx hb d_Mo_start_0 (by decide) ?_
  refine lv_istore_n (lv' := [(1, .int 0), (0, .ref (ad j))]) hx hb d_Mo_start_1 rfl hl (by decide) rfl (fun ls hl => ?_)
  exact w_Mo_start_L2 hC hr hlk 10 M j 0 _ _ ls hw (lv_sub hl [1, 0] rfl) hj hp hf
theorem d_Mo_top_0 : decode prog_8_method_9_code 0 = .ok (.bipush 9, 2) := by decide +kernel
theorem d_Mo_top_2 : decode prog_8_method_9_code 2 = .ok (.iload_n 1, 1) := by decide +kernel
theorem d_Mo_top_3 : decode prog_8_method_9_code 3 = .ok (.imul, 1) := by decide +kernel
theorem d_Mo_top_4 : decode prog_8_method_9_code 4 = .ok (.aload_n 0, 1) := by decide +kernel
theorem d_Mo_top_5 : decode prog_8_method_9_code 5 = .ok (.getfield 68, 3) := by decide +kernel
theorem d_Mo_top_8 : decode prog_8_method_9_code 8 = .ok (.iload_n 1, 1) := by decide +kernel
theorem d_Mo_top_9 : decode prog_8_method_9_code 9 = .ok (.iaload, 1) := by decide +kernel
theorem d_Mo_top_10 : decode prog_8_method_9_code 10 = .ok (.iadd, 1) := by decide +kernel
theorem d_Mo_top_11 : decode prog_8_method_9_code 11 = .ok (.iconst 1, 1) := by decide +kernel
theorem d_Mo_top_12 : decode prog_8_method_9_code 12 = .ok (.isub, 1) := by decide +kernel
theorem d_Mo_top_13 : decode prog_8_method_9_code 13 = .ok (.ireturn, 1) := by decide +kernel
def f_Mo_top (M : cs_Mem) (j : Nat) (x1 : Int32) : Int32 :=
  ((9 * x1) + (M 82 x1.toNatClampNeg)) - 1
def pre_Mo_top (M : cs_Mem) (j : Nat) (x1 : Int32) : Prop :=
  (vp_in x1 (cs_ln M 82)) ∧
  True
set_option maxHeartbeats 4000000 in
set_option maxRecDepth 100000 in
theorem c_Mo_top (l : Launch) (D : va_G) (cA : Nat → ClassId) (ad : Nat → Nat) (M : cs_Mem) (j : Nat) (hj : cs_is 5 j) (x1 : Int32) (hp : pre_Mo_top M j x1) : cs_Ci l ⟨"ClassStarterModel", "top", "(I)I"⟩ prog_8_method_9_code 2 (some .int) ({ frames := 0, cells := 0, slots := 0, locals := 0 }) D cA ad M [.ref (ad j), .int x1] ((f_Mo_top M j x1, M)) := by
  refine cs_entry (by decide) (Nat.le_of_ble_eq_true rfl) (fun p e s m below meth c A ls hC hr hlk _ hw hl => ?_)
  have hx := hC.1
  have hb := hC.2.1
  have hl : lv_has ls 2 [(0, .ref (ad j)), (1, .int x1)] := hl
  generalize hF : f_Mo_top M j x1 = F
  have hf := hF.symm
  unfold f_Mo_top at hf
  unfold pre_Mo_top at hp
  refine lv_bipush (v := 9) hx hb d_Mo_top_0 (by decide) ?_
  refine lv_iload_n hx hb d_Mo_top_2 rfl (lv_at hl 1 rfl) ?_
  refine lv_imul hx hb d_Mo_top_3 ?_
  refine lv_aload_n hx hb d_Mo_top_4 rfl (lv_at hl 0 rfl) ?_
  refine gf_Mo_frames hC hw hj wd_571 d_Mo_top_5 ?_
  refine lv_iload_n hx hb d_Mo_top_8 rfl (lv_at hl 1 rfl) ?_
  have o1 := hp.1
  have hp := hp.2
  refine cs_iald hC hw is_82 o1 d_Mo_top_9 ?_
  refine lv_iadd hx hb d_Mo_top_10 ?_
  refine lv_iconst (v := 1) hx hb d_Mo_top_11 (by decide) ?_
  refine lv_isub hx hb d_Mo_top_12 ?_
  exact cs_iret hC hw hr hlk (congrArg (fun z => (z, M)) hf) d_Mo_top_13
theorem d_Mo_uses_0 : decode prog_8_method_10_code 0 = .ok (.iload_n 1, 1) := by decide +kernel
theorem d_Mo_uses_1 : decode prog_8_method_10_code 1 = .ok (.ifCond .lt 12, 3) := by decide +kernel
theorem d_Mo_uses_4 : decode prog_8_method_10_code 4 = .ok (.aload_n 0, 1) := by decide +kernel
theorem d_Mo_uses_5 : decode prog_8_method_10_code 5 = .ok (.getfield 25, 3) := by decide +kernel
theorem d_Mo_uses_8 : decode prog_8_method_10_code 8 = .ok (.iload_n 1, 1) := by decide +kernel
theorem d_Mo_uses_9 : decode prog_8_method_10_code 9 = .ok (.baload, 1) := by decide +kernel
theorem d_Mo_uses_10 : decode prog_8_method_10_code 10 = .ok (.ifCond .eq 5, 3) := by decide +kernel
theorem d_Mo_uses_13 : decode prog_8_method_10_code 13 = .ok (.iconst 0, 1) := by decide +kernel
theorem d_Mo_uses_14 : decode prog_8_method_10_code 14 = .ok (.ireturn, 1) := by decide +kernel
theorem d_Mo_uses_15 : decode prog_8_method_10_code 15 = .ok (.aload_n 0, 1) := by decide +kernel
theorem d_Mo_uses_16 : decode prog_8_method_10_code 16 = .ok (.getfield 7, 3) := by decide +kernel
theorem d_Mo_uses_19 : decode prog_8_method_10_code 19 = .ok (.iload_n 1, 1) := by decide +kernel
theorem d_Mo_uses_20 : decode prog_8_method_10_code 20 = .ok (.iaload, 1) := by decide +kernel
theorem d_Mo_uses_21 : decode prog_8_method_10_code 21 = .ok (.ifCond .lt 7, 3) := by decide +kernel
theorem d_Mo_uses_24 : decode prog_8_method_10_code 24 = .ok (.iconst 1, 1) := by decide +kernel
theorem d_Mo_uses_25 : decode prog_8_method_10_code 25 = .ok (.goto 4, 3) := by decide +kernel
theorem d_Mo_uses_28 : decode prog_8_method_10_code 28 = .ok (.iconst 0, 1) := by decide +kernel
theorem d_Mo_uses_29 : decode prog_8_method_10_code 29 = .ok (.istore_n 2, 1) := by decide +kernel
theorem d_Mo_uses_30 : decode prog_8_method_10_code 30 = .ok (.iconst 0, 1) := by decide +kernel
theorem d_Mo_uses_31 : decode prog_8_method_10_code 31 = .ok (.istore_n 3, 1) := by decide +kernel
theorem d_Mo_uses_32 : decode prog_8_method_10_code 32 = .ok (.iload_n 3, 1) := by decide +kernel
theorem d_Mo_uses_33 : decode prog_8_method_10_code 33 = .ok (.aload_n 0, 1) := by decide +kernel
theorem d_Mo_uses_34 : decode prog_8_method_10_code 34 = .ok (.getfield 16, 3) := by decide +kernel
theorem d_Mo_uses_37 : decode prog_8_method_10_code 37 = .ok (.iload_n 1, 1) := by decide +kernel
theorem d_Mo_uses_38 : decode prog_8_method_10_code 38 = .ok (.iaload, 1) := by decide +kernel
theorem d_Mo_uses_39 : decode prog_8_method_10_code 39 = .ok (.if_icmp .ge 25, 3) := by decide +kernel
theorem d_Mo_uses_42 : decode prog_8_method_10_code 42 = .ok (.aload_n 0, 1) := by decide +kernel
theorem d_Mo_uses_43 : decode prog_8_method_10_code 43 = .ok (.getfield 35, 3) := by decide +kernel
theorem d_Mo_uses_46 : decode prog_8_method_10_code 46 = .ok (.iconst 2, 1) := by decide +kernel
theorem d_Mo_uses_47 : decode prog_8_method_10_code 47 = .ok (.iload_n 1, 1) := by decide +kernel
theorem d_Mo_uses_48 : decode prog_8_method_10_code 48 = .ok (.imul, 1) := by decide +kernel
theorem d_Mo_uses_49 : decode prog_8_method_10_code 49 = .ok (.iload_n 3, 1) := by decide +kernel
theorem d_Mo_uses_50 : decode prog_8_method_10_code 50 = .ok (.iadd, 1) := by decide +kernel
theorem d_Mo_uses_51 : decode prog_8_method_10_code 51 = .ok (.baload, 1) := by decide +kernel
theorem d_Mo_uses_52 : decode prog_8_method_10_code 52 = .ok (.ifCond .eq 6, 3) := by decide +kernel
theorem d_Mo_uses_55 : decode prog_8_method_10_code 55 = .ok (.iinc 2 1, 3) := by decide +kernel
theorem d_Mo_uses_58 : decode prog_8_method_10_code 58 = .ok (.iinc 3 1, 3) := by decide +kernel
theorem d_Mo_uses_61 : decode prog_8_method_10_code 61 = .ok (.goto (-29), 3) := by decide +kernel
theorem d_Mo_uses_64 : decode prog_8_method_10_code 64 = .ok (.iload_n 2, 1) := by decide +kernel
theorem d_Mo_uses_65 : decode prog_8_method_10_code 65 = .ok (.ireturn, 1) := by decide +kernel
def f_Mo_uses_L32 : Nat → cs_Mem → Nat → Int32 → Int32 → Int32 → Int32
  | 0, M, j, y1, y2, y3 => 0
  | fuel + 1, M, j, y1, y2, y3 =>
    if (M 65 y1.toNatClampNeg) ≤ y3 then
      y2
    else
      if (M 71 ((2 * y1) + y3).toNatClampNeg) = 0 then
        cs_bd (y3 + 1) fun (z10 : Int32) =>
        f_Mo_uses_L32 fuel M j y1 y2 z10
      else
        cs_bd (y2 + 1) fun (z11 : Int32) =>
        cs_bd (y3 + 1) fun (z12 : Int32) =>
        f_Mo_uses_L32 fuel M j y1 z11 z12
def pre_Mo_uses_L32 : Nat → cs_Mem → Nat → Int32 → Int32 → Int32 → Prop
  | 0, _, _, _, _, _ => False
  | fuel + 1, M, j, y1, y2, y3 =>
    (vp_in y1 (cs_ln M 65)) ∧
    ((M 65 y1.toNatClampNeg) ≤ y3 →
      True
    ) ∧ (¬ ((M 65 y1.toNatClampNeg) ≤ y3) →
      (vp_in ((2 * y1) + y3) (cs_ln M 71)) ∧
      ((M 71 ((2 * y1) + y3).toNatClampNeg) = 0 →
        cs_bd (y3 + 1) fun (z10 : Int32) =>
        pre_Mo_uses_L32 fuel M j y1 y2 z10
      ) ∧ (¬ ((M 71 ((2 * y1) + y3).toNatClampNeg) = 0) →
        cs_bd (y2 + 1) fun (z11 : Int32) =>
        cs_bd (y3 + 1) fun (z12 : Int32) =>
        pre_Mo_uses_L32 fuel M j y1 z11 z12
      )
    )
def f_Mo_uses_J13 (M : cs_Mem)  : Int32 :=
  0
def f_Mo_uses (M : cs_Mem) (j : Nat) (x1 : Int32) : Int32 :=
  if x1 < 0 then
    f_Mo_uses_J13 M 
  else
    if (M 68 x1.toNatClampNeg) = 0 then
      if (M 63 x1.toNatClampNeg) < 0 then
        f_Mo_uses_L32 10 M j x1 0 0
      else
        f_Mo_uses_L32 10 M j x1 1 0
    else
      f_Mo_uses_J13 M 
def pre_Mo_uses (M : cs_Mem) (j : Nat) (x1 : Int32) : Prop :=
  (x1 < 0 →
    True
  ) ∧ (¬ (x1 < 0) →
    (vp_in x1 (cs_ln M 68)) ∧
    ((M 68 x1.toNatClampNeg) = 0 →
      (vp_in x1 (cs_ln M 63)) ∧
      ((M 63 x1.toNatClampNeg) < 0 →
        pre_Mo_uses_L32 10 M j x1 0 0
      ) ∧ (¬ ((M 63 x1.toNatClampNeg) < 0) →
        pre_Mo_uses_L32 10 M j x1 1 0
      )
    ) ∧ (¬ ((M 68 x1.toNatClampNeg) = 0) →
      True
    )
  )
set_option maxHeartbeats 4000000 in
set_option maxRecDepth 100000 in
theorem w_Mo_uses_L32 {p : Program} {l : Launch} {e : Env} {s : State} {m : MethodId} {args : Array Value} {below : List Frame} {meth : Method} {c : Code} {D : va_G} {cA : Nat → ClassId} {A : Nat → Prop} {ad : Nat → Nat} {F : Int32} (hC : cs_Ctx p s m args c prog_8_method_10_code 4 "ClassStarterModel" D cA A) (hr : meth.sig.returnType = (some .int)) (hlk : meth.locks = false) (fuel : Nat) : ∀ (M : cs_Mem) (j : Nat) (y1 : Int32) (y2 : Int32) (y3 : Int32) (H : Heap) (locs : List Loc) (ls : Array Slot), cs_Wd D cA ad M A s H locs → lv_has ls 4 [(0, .ref (ad j)), (1, .int y1), (2, .int y2), (3, .int y3)] → cs_is 5 j → pre_Mo_uses_L32 fuel M j y1 y2 y3 → F = f_Mo_uses_L32 fuel M j y1 y2 y3 → W p l e ({ frames := 0, cells := 0, slots := 0, locals := 0 }) s m args below meth c H locs 0 0 (MQ below (cs_Qi D cA ad (F, M) A) args s 0 0 A) (F0 m 32 ls []) := by
  have hx := hC.1
  have hb := hC.2.1
  induction fuel with
  | zero =>
    intro M j y1 y2 y3 H locs ls hw hl g0 hp hf
    exact absurd hp (by simp [pre_Mo_uses_L32])
  | succ fuel ih =>
    intro M j y1 y2 y3 H locs ls hw hl g0 hp hf
    rw [f_Mo_uses_L32] at hf
    rw [pre_Mo_uses_L32] at hp
    refine lv_iload_n hx hb d_Mo_uses_32 rfl (lv_at hl 3 rfl) ?_
    refine lv_aload_n hx hb d_Mo_uses_33 rfl (lv_at hl 0 rfl) ?_
    refine gf_Mo_interfaces hC hw g0 wd_552 d_Mo_uses_34 ?_
    refine lv_iload_n hx hb d_Mo_uses_37 rfl (lv_at hl 1 rfl) ?_
    have o6 := hp.1
    have hp := hp.2
    refine cs_iald hC hw is_65 o6 d_Mo_uses_38 ?_
    refine lv_icmp_ge (tgt := 64) hx hb d_Mo_uses_39 (by decide) (fun c7 => ?_) (fun c7 => ?_)
    · have hp := hp.1 c7
      have hf := hf.trans (if_pos c7)
      refine lv_iload_n hx hb d_Mo_uses_64 rfl (lv_at hl 2 rfl) ?_
      exact cs_iret hC hw hr hlk (congrArg (fun z => (z, M)) hf) d_Mo_uses_65
    · have hp := hp.2 c7
      have hf := hf.trans (if_neg c7)
      refine lv_aload_n hx hb d_Mo_uses_42 rfl (lv_at hl 0 rfl) ?_
      refine gf_Mo_defaulted hC hw g0 wd_558 d_Mo_uses_43 ?_
      refine lv_iconst (v := 2) hx hb d_Mo_uses_46 (by decide) ?_
      refine lv_iload_n hx hb d_Mo_uses_47 rfl (lv_at hl 1 rfl) ?_
      refine lv_imul hx hb d_Mo_uses_48 ?_
      refine lv_iload_n hx hb d_Mo_uses_49 rfl (lv_at hl 3 rfl) ?_
      refine lv_iadd hx hb d_Mo_uses_50 ?_
      have o8 := hp.1
      have hp := hp.2
      refine cs_zald hC hw is_71 o8 d_Mo_uses_51 ?_
      refine lv_if_eq (tgt := 58) hx hb d_Mo_uses_52 (by decide) (fun c9 => ?_) (fun c9 => ?_)
      · have hp := hp.1 c9
        have hf := hf.trans (if_pos c9)
        obtain ⟨z10, ez10⟩ : ∃ y : Int32, y = y3 + 1 := ⟨_, rfl⟩
        have hp := cs_bdP ez10 hp
        have hf := cs_bdE ez10 hf
        refine lv_iinc (v := z10) (lv' := [(3, .int z10), (0, .ref (ad j)), (1, .int y1), (2, .int y2)]) hx hb d_Mo_uses_58 hl (k := 3) rfl (by rw [ez10]; rfl) (by decide) rfl (fun ls hl => ?_)
        refine lv_goto (tgt := 32) hx hb d_Mo_uses_61 (by decide) ?_
        exact ih M j y1 y2 z10 _ _ ls hw (lv_sub hl [1, 2, 3, 0] rfl) g0 hp hf
      · have hp := hp.2 c9
        have hf := hf.trans (if_neg c9)
        obtain ⟨z11, ez11⟩ : ∃ y : Int32, y = y2 + 1 := ⟨_, rfl⟩
        have hp := cs_bdP ez11 hp
        have hf := cs_bdE ez11 hf
        refine lv_iinc (v := z11) (lv' := [(2, .int z11), (0, .ref (ad j)), (1, .int y1), (3, .int y3)]) hx hb d_Mo_uses_55 hl (k := 2) rfl (by rw [ez11]; rfl) (by decide) rfl (fun ls hl => ?_)
        obtain ⟨z12, ez12⟩ : ∃ y : Int32, y = y3 + 1 := ⟨_, rfl⟩
        have hp := cs_bdP ez12 hp
        have hf := cs_bdE ez12 hf
        refine lv_iinc (v := z12) (lv' := [(3, .int z12), (2, .int z11), (0, .ref (ad j)), (1, .int y1)]) hx hb d_Mo_uses_58 hl (k := 3) rfl (by rw [ez12]; rfl) (by decide) rfl (fun ls hl => ?_)
        refine lv_goto (tgt := 32) hx hb d_Mo_uses_61 (by decide) ?_
        exact ih M j y1 z11 z12 _ _ ls hw (lv_sub hl [2, 3, 1, 0] rfl) g0 hp hf
set_option maxHeartbeats 4000000 in
set_option maxRecDepth 100000 in
theorem w_Mo_uses_J13 {p : Program} {l : Launch} {e : Env} {s : State} {m : MethodId} {args : Array Value} {below : List Frame} {meth : Method} {c : Code} {D : va_G} {cA : Nat → ClassId} {A : Nat → Prop} {ad : Nat → Nat} {F : Int32} (hC : cs_Ctx p s m args c prog_8_method_10_code 4 "ClassStarterModel" D cA A) (hr : meth.sig.returnType = (some .int)) (hlk : meth.locks = false) : ∀ (M : cs_Mem) (H : Heap) (locs : List Loc) (ls : Array Slot), cs_Wd D cA ad M A s H locs → lv_has ls 4 [] → F = f_Mo_uses_J13 M  → W p l e ({ frames := 0, cells := 0, slots := 0, locals := 0 }) s m args below meth c H locs 0 0 (MQ below (cs_Qi D cA ad (F, M) A) args s 0 0 A) (F0 m 13 ls []) := by
  have hx := hC.1
  have hb := hC.2.1
  intro M  H locs ls hw hl  hf
  unfold f_Mo_uses_J13 at hf
  refine lv_iconst (v := 0) hx hb d_Mo_uses_13 (by decide) ?_
  exact cs_iret hC hw hr hlk (congrArg (fun z => (z, M)) hf) d_Mo_uses_14
set_option maxHeartbeats 4000000 in
set_option maxRecDepth 100000 in
theorem c_Mo_uses (l : Launch) (D : va_G) (cA : Nat → ClassId) (ad : Nat → Nat) (M : cs_Mem) (j : Nat) (hj : cs_is 5 j) (x1 : Int32) (hp : pre_Mo_uses M j x1) : cs_Ci l ⟨"ClassStarterModel", "uses", "(I)I"⟩ prog_8_method_10_code 4 (some .int) ({ frames := 0, cells := 0, slots := 0, locals := 0 }) D cA ad M [.ref (ad j), .int x1] ((f_Mo_uses M j x1, M)) := by
  refine cs_entry (by decide) (Nat.le_of_ble_eq_true rfl) (fun p e s m below meth c A ls hC hr hlk _ hw hl => ?_)
  have hx := hC.1
  have hb := hC.2.1
  have hl : lv_has ls 4 [(0, .ref (ad j)), (1, .int x1)] := hl
  generalize hF : f_Mo_uses M j x1 = F
  have hf := hF.symm
  unfold f_Mo_uses at hf
  unfold pre_Mo_uses at hp
  refine lv_iload_n hx hb d_Mo_uses_0 rfl (lv_at hl 1 rfl) ?_
  refine lv_if_lt (tgt := 13) hx hb d_Mo_uses_1 (by decide) (fun c1 => ?_) (fun c1 => ?_)
  · have hp := hp.1 c1
    have hf := hf.trans (if_pos c1)
    exact w_Mo_uses_J13 hC hr hlk M  _ _ ls hw (lv_sub hl [] rfl) hf
  · have hp := hp.2 c1
    have hf := hf.trans (if_neg c1)
    refine lv_aload_n hx hb d_Mo_uses_4 rfl (lv_at hl 0 rfl) ?_
    refine gf_Mo_isInterface hC hw hj wd_555 d_Mo_uses_5 ?_
    refine lv_iload_n hx hb d_Mo_uses_8 rfl (lv_at hl 1 rfl) ?_
    have o2 := hp.1
    have hp := hp.2
    refine cs_zald hC hw is_68 o2 d_Mo_uses_9 ?_
    refine lv_if_eq (tgt := 15) hx hb d_Mo_uses_10 (by decide) (fun c3 => ?_) (fun c3 => ?_)
    · have hp := hp.1 c3
      have hf := hf.trans (if_pos c3)
      refine lv_aload_n hx hb d_Mo_uses_15 rfl (lv_at hl 0 rfl) ?_
      refine gf_Mo_parent hC hw hj wd_550 d_Mo_uses_16 ?_
      refine lv_iload_n hx hb d_Mo_uses_19 rfl (lv_at hl 1 rfl) ?_
      have o4 := hp.1
      have hp := hp.2
      refine cs_iald hC hw is_63 o4 d_Mo_uses_20 ?_
      refine lv_if_lt (tgt := 28) hx hb d_Mo_uses_21 (by decide) (fun c5 => ?_) (fun c5 => ?_)
      · have hp := hp.1 c5
        have hf := hf.trans (if_pos c5)
        refine lv_iconst (v := 0) hx hb d_Mo_uses_28 (by decide) ?_
        refine lv_istore_n (lv' := [(2, .int 0), (0, .ref (ad j)), (1, .int x1)]) hx hb d_Mo_uses_29 rfl hl (by decide) rfl (fun ls hl => ?_)
        refine lv_iconst (v := 0) hx hb d_Mo_uses_30 (by decide) ?_
        refine lv_istore_n (lv' := [(3, .int 0), (2, .int 0), (0, .ref (ad j)), (1, .int x1)]) hx hb d_Mo_uses_31 rfl hl (by decide) rfl (fun ls hl => ?_)
        exact w_Mo_uses_L32 hC hr hlk 10 M j x1 0 0 _ _ ls hw (lv_sub hl [2, 3, 1, 0] rfl) hj hp hf
      · have hp := hp.2 c5
        have hf := hf.trans (if_neg c5)
        refine lv_iconst (v := 1) hx hb d_Mo_uses_24 (by decide) ?_
        refine lv_goto (tgt := 29) hx hb d_Mo_uses_25 (by decide) ?_
        refine lv_istore_n (lv' := [(2, .int 1), (0, .ref (ad j)), (1, .int x1)]) hx hb d_Mo_uses_29 rfl hl (by decide) rfl (fun ls hl => ?_)
        refine lv_iconst (v := 0) hx hb d_Mo_uses_30 (by decide) ?_
        refine lv_istore_n (lv' := [(3, .int 0), (2, .int 1), (0, .ref (ad j)), (1, .int x1)]) hx hb d_Mo_uses_31 rfl hl (by decide) rfl (fun ls hl => ?_)
        exact w_Mo_uses_L32 hC hr hlk 10 M j x1 1 0 _ _ ls hw (lv_sub hl [2, 3, 1, 0] rfl) hj hp hf
    · have hp := hp.2 c3
      have hf := hf.trans (if_neg c3)
      exact w_Mo_uses_J13 hC hr hlk M  _ _ ls hw (lv_sub hl [] rfl) hf
theorem d_Mo_parts_0 : decode prog_8_method_11_code 0 = .ok (.iload_n 2, 1) := by decide +kernel
theorem d_Mo_parts_1 : decode prog_8_method_11_code 1 = .ok (.ifCond .ge 12, 3) := by decide +kernel
theorem d_Mo_parts_4 : decode prog_8_method_11_code 4 = .ok (.aload_n 0, 1) := by decide +kernel
theorem d_Mo_parts_5 : decode prog_8_method_11_code 5 = .ok (.getfield 47, 3) := by decide +kernel
theorem d_Mo_parts_8 : decode prog_8_method_11_code 8 = .ok (.iload_n 1, 1) := by decide +kernel
theorem d_Mo_parts_9 : decode prog_8_method_11_code 9 = .ok (.iaload, 1) := by decide +kernel
theorem d_Mo_parts_10 : decode prog_8_method_11_code 10 = .ok (.goto 15, 3) := by decide +kernel
theorem d_Mo_parts_13 : decode prog_8_method_11_code 13 = .ok (.aload_n 0, 1) := by decide +kernel
theorem d_Mo_parts_14 : decode prog_8_method_11_code 14 = .ok (.iload_n 2, 1) := by decide +kernel
theorem d_Mo_parts_15 : decode prog_8_method_11_code 15 = .ok (.invokevirtual 109, 3) := by decide +kernel
theorem d_Mo_parts_18 : decode prog_8_method_11_code 18 = .ok (.aload_n 0, 1) := by decide +kernel
theorem d_Mo_parts_19 : decode prog_8_method_11_code 19 = .ok (.getfield 22, 3) := by decide +kernel
theorem d_Mo_parts_22 : decode prog_8_method_11_code 22 = .ok (.iload_n 2, 1) := by decide +kernel
theorem d_Mo_parts_23 : decode prog_8_method_11_code 23 = .ok (.iaload, 1) := by decide +kernel
theorem d_Mo_parts_24 : decode prog_8_method_11_code 24 = .ok (.iadd, 1) := by decide +kernel
theorem d_Mo_parts_25 : decode prog_8_method_11_code 25 = .ok (.ireturn, 1) := by decide +kernel
def f_Mo_parts (M : cs_Mem) (j : Nat) (x1 : Int32) (x2 : Int32) : Int32 :=
  if 0 ≤ x2 then
    cs_bd (f_Mo_uses M j x2) fun (r3 : Int32) =>
    r3 + (M 67 x2.toNatClampNeg)
  else
    M 75 x1.toNatClampNeg
def pre_Mo_parts (M : cs_Mem) (j : Nat) (x1 : Int32) (x2 : Int32) : Prop :=
  (0 ≤ x2 →
    (pre_Mo_uses M j x2) ∧
    cs_bd (f_Mo_uses M j x2) fun (r3 : Int32) =>
    (vp_in x2 (cs_ln M 67)) ∧
    True
  ) ∧ (¬ (0 ≤ x2) →
    (vp_in x1 (cs_ln M 75)) ∧
    True
  )
set_option maxHeartbeats 4000000 in
set_option maxRecDepth 100000 in
theorem c_Mo_parts (l : Launch) (D : va_G) (cA : Nat → ClassId) (ad : Nat → Nat) (M : cs_Mem) (j : Nat) (hj : cs_is 5 j) (x1 : Int32) (x2 : Int32) (hp : pre_Mo_parts M j x1 x2) : cs_Ci l ⟨"ClassStarterModel", "parts", "(II)I"⟩ prog_8_method_11_code 3 (some .int) ({ frames := 1, cells := 0, slots := 0, locals := 23 }) D cA ad M [.ref (ad j), .int x1, .int x2] ((f_Mo_parts M j x1 x2, M)) := by
  refine cs_entry (by decide) (Nat.le_of_ble_eq_true rfl) (fun p e s m below meth c A ls hC hr hlk _ hw hl => ?_)
  have hx := hC.1
  have hb := hC.2.1
  have hl : lv_has ls 3 [(0, .ref (ad j)), (1, .int x1), (2, .int x2)] := hl
  generalize hF : f_Mo_parts M j x1 x2 = F
  have hf := hF.symm
  unfold f_Mo_parts at hf
  unfold pre_Mo_parts at hp
  refine lv_iload_n hx hb d_Mo_parts_0 rfl (lv_at hl 2 rfl) ?_
  refine lv_if_ge (tgt := 13) hx hb d_Mo_parts_1 (by decide) (fun c1 => ?_) (fun c1 => ?_)
  · have hp := hp.1 c1
    have hf := hf.trans (if_pos c1)
    refine lv_aload_n hx hb d_Mo_parts_13 rfl (lv_at hl 0 rfl) ?_
    refine lv_iload_n hx hb d_Mo_parts_14 rfl (lv_at hl 2 rfl) ?_
    have o2 := hp.1
    have hp := hp.2
    refine cs_ret_p hC hw (cs_runV (As := [.int x2]) (rest := []) hC hw hj.2 (ci := 5) rfl rfl (cs_sg_is hj) (c_Mo_uses l D cA ad M j hj x2 o2 _) rfl rfl cw_Mo_109 ⟨Nat.le_of_ble_eq_true rfl, Nat.le_of_ble_eq_true rfl⟩ hl.1 rfl rfl (Nat.le_of_ble_eq_true rfl) d_Mo_parts_15 ⟨Nat.zero_le _, Nat.zero_le _⟩) (fun r3 H locs er3 hw => ?_)
    have hp := cs_bdP er3 hp
    have hf := cs_bdE er3 hf
    refine lv_aload_n hx hb d_Mo_parts_18 rfl (lv_at hl 0 rfl) ?_
    refine gf_Mo_actionCount hC hw hj wd_554 d_Mo_parts_19 ?_
    refine lv_iload_n hx hb d_Mo_parts_22 rfl (lv_at hl 2 rfl) ?_
    have o4 := hp.1
    have hp := hp.2
    refine cs_iald hC hw is_67 o4 d_Mo_parts_23 ?_
    refine lv_iadd hx hb d_Mo_parts_24 ?_
    exact cs_iret hC hw hr hlk (congrArg (fun z => (z, M)) hf) d_Mo_parts_25
  · have hp := hp.2 c1
    have hf := hf.trans (if_neg c1)
    refine lv_aload_n hx hb d_Mo_parts_4 rfl (lv_at hl 0 rfl) ?_
    refine gf_Mo_planCount hC hw hj wd_562 d_Mo_parts_5 ?_
    refine lv_iload_n hx hb d_Mo_parts_8 rfl (lv_at hl 1 rfl) ?_
    have o5 := hp.1
    have hp := hp.2
    refine cs_iald hC hw is_75 o5 d_Mo_parts_9 ?_
    refine lv_goto (tgt := 25) hx hb d_Mo_parts_10 (by decide) ?_
    exact cs_iret hC hw hr hlk (congrArg (fun z => (z, M)) hf) d_Mo_parts_25
theorem d_Mo_useAt_0 : decode prog_8_method_12_code 0 = .ok (.iload_n 2, 1) := by decide +kernel
theorem d_Mo_useAt_1 : decode prog_8_method_12_code 1 = .ok (.istore_n 3, 1) := by decide +kernel
theorem d_Mo_useAt_2 : decode prog_8_method_12_code 2 = .ok (.aload_n 0, 1) := by decide +kernel
theorem d_Mo_useAt_3 : decode prog_8_method_12_code 3 = .ok (.getfield 7, 3) := by decide +kernel
theorem d_Mo_useAt_6 : decode prog_8_method_12_code 6 = .ok (.iload_n 1, 1) := by decide +kernel
theorem d_Mo_useAt_7 : decode prog_8_method_12_code 7 = .ok (.iaload, 1) := by decide +kernel
theorem d_Mo_useAt_8 : decode prog_8_method_12_code 8 = .ok (.ifCond .lt 17, 3) := by decide +kernel
theorem d_Mo_useAt_11 : decode prog_8_method_12_code 11 = .ok (.iload_n 3, 1) := by decide +kernel
theorem d_Mo_useAt_12 : decode prog_8_method_12_code 12 = .ok (.ifCond .ne 10, 3) := by decide +kernel
theorem d_Mo_useAt_15 : decode prog_8_method_12_code 15 = .ok (.aload_n 0, 1) := by decide +kernel
theorem d_Mo_useAt_16 : decode prog_8_method_12_code 16 = .ok (.getfield 7, 3) := by decide +kernel
theorem d_Mo_useAt_19 : decode prog_8_method_12_code 19 = .ok (.iload_n 1, 1) := by decide +kernel
theorem d_Mo_useAt_20 : decode prog_8_method_12_code 20 = .ok (.iaload, 1) := by decide +kernel
theorem d_Mo_useAt_21 : decode prog_8_method_12_code 21 = .ok (.ireturn, 1) := by decide +kernel
theorem d_Mo_useAt_22 : decode prog_8_method_12_code 22 = .ok (.iinc 3 (-1), 3) := by decide +kernel
theorem d_Mo_useAt_25 : decode prog_8_method_12_code 25 = .ok (.iconst 0, 1) := by decide +kernel
theorem d_Mo_useAt_26 : decode prog_8_method_12_code 26 = .ok (.istore 4, 2) := by decide +kernel
theorem d_Mo_useAt_28 : decode prog_8_method_12_code 28 = .ok (.iload 4, 2) := by decide +kernel
theorem d_Mo_useAt_30 : decode prog_8_method_12_code 30 = .ok (.aload_n 0, 1) := by decide +kernel
theorem d_Mo_useAt_31 : decode prog_8_method_12_code 31 = .ok (.getfield 16, 3) := by decide +kernel
theorem d_Mo_useAt_34 : decode prog_8_method_12_code 34 = .ok (.iload_n 1, 1) := by decide +kernel
theorem d_Mo_useAt_35 : decode prog_8_method_12_code 35 = .ok (.iaload, 1) := by decide +kernel
theorem d_Mo_useAt_36 : decode prog_8_method_12_code 36 = .ok (.if_icmp .ge 45, 3) := by decide +kernel
theorem d_Mo_useAt_39 : decode prog_8_method_12_code 39 = .ok (.aload_n 0, 1) := by decide +kernel
theorem d_Mo_useAt_40 : decode prog_8_method_12_code 40 = .ok (.getfield 35, 3) := by decide +kernel
theorem d_Mo_useAt_43 : decode prog_8_method_12_code 43 = .ok (.iconst 2, 1) := by decide +kernel
theorem d_Mo_useAt_44 : decode prog_8_method_12_code 44 = .ok (.iload_n 1, 1) := by decide +kernel
theorem d_Mo_useAt_45 : decode prog_8_method_12_code 45 = .ok (.imul, 1) := by decide +kernel
theorem d_Mo_useAt_46 : decode prog_8_method_12_code 46 = .ok (.iload 4, 2) := by decide +kernel
theorem d_Mo_useAt_48 : decode prog_8_method_12_code 48 = .ok (.iadd, 1) := by decide +kernel
theorem d_Mo_useAt_49 : decode prog_8_method_12_code 49 = .ok (.baload, 1) := by decide +kernel
theorem d_Mo_useAt_50 : decode prog_8_method_12_code 50 = .ok (.ifCond .ne 6, 3) := by decide +kernel
theorem d_Mo_useAt_53 : decode prog_8_method_12_code 53 = .ok (.goto 22, 3) := by decide +kernel
theorem d_Mo_useAt_56 : decode prog_8_method_12_code 56 = .ok (.iload_n 3, 1) := by decide +kernel
theorem d_Mo_useAt_57 : decode prog_8_method_12_code 57 = .ok (.ifCond .ne 15, 3) := by decide +kernel
theorem d_Mo_useAt_60 : decode prog_8_method_12_code 60 = .ok (.aload_n 0, 1) := by decide +kernel
theorem d_Mo_useAt_61 : decode prog_8_method_12_code 61 = .ok (.getfield 32, 3) := by decide +kernel
theorem d_Mo_useAt_64 : decode prog_8_method_12_code 64 = .ok (.iconst 2, 1) := by decide +kernel
theorem d_Mo_useAt_65 : decode prog_8_method_12_code 65 = .ok (.iload_n 1, 1) := by decide +kernel
theorem d_Mo_useAt_66 : decode prog_8_method_12_code 66 = .ok (.imul, 1) := by decide +kernel
theorem d_Mo_useAt_67 : decode prog_8_method_12_code 67 = .ok (.iload 4, 2) := by decide +kernel
theorem d_Mo_useAt_69 : decode prog_8_method_12_code 69 = .ok (.iadd, 1) := by decide +kernel
theorem d_Mo_useAt_70 : decode prog_8_method_12_code 70 = .ok (.iaload, 1) := by decide +kernel
theorem d_Mo_useAt_71 : decode prog_8_method_12_code 71 = .ok (.ireturn, 1) := by decide +kernel
theorem d_Mo_useAt_72 : decode prog_8_method_12_code 72 = .ok (.iinc 3 (-1), 3) := by decide +kernel
theorem d_Mo_useAt_75 : decode prog_8_method_12_code 75 = .ok (.iinc 4 1, 3) := by decide +kernel
theorem d_Mo_useAt_78 : decode prog_8_method_12_code 78 = .ok (.goto (-50), 3) := by decide +kernel
theorem d_Mo_useAt_81 : decode prog_8_method_12_code 81 = .ok (.iconst (-1), 1) := by decide +kernel
theorem d_Mo_useAt_82 : decode prog_8_method_12_code 82 = .ok (.ireturn, 1) := by decide +kernel
def f_Mo_useAt_L28 : Nat → cs_Mem → Nat → Int32 → Int32 → Int32 → Int32
  | 0, M, j, y1, y3, y4 => 0
  | fuel + 1, M, j, y1, y3, y4 =>
    if (M 65 y1.toNatClampNeg) ≤ y4 then
      (-1)
    else
      if (M 71 ((2 * y1) + y4).toNatClampNeg) = 0 then
        cs_bd (y4 + 1) fun (z14 : Int32) =>
        f_Mo_useAt_L28 fuel M j y1 y3 z14
      else
        if y3 = 0 then
          M 70 ((2 * y1) + y4).toNatClampNeg
        else
          cs_bd (y3 + (-1)) fun (z11 : Int32) =>
          cs_bd (y4 + 1) fun (z12 : Int32) =>
          f_Mo_useAt_L28 fuel M j y1 z11 z12
def pre_Mo_useAt_L28 : Nat → cs_Mem → Nat → Int32 → Int32 → Int32 → Prop
  | 0, _, _, _, _, _ => False
  | fuel + 1, M, j, y1, y3, y4 =>
    (vp_in y1 (cs_ln M 65)) ∧
    ((M 65 y1.toNatClampNeg) ≤ y4 →
      True
    ) ∧ (¬ ((M 65 y1.toNatClampNeg) ≤ y4) →
      (vp_in ((2 * y1) + y4) (cs_ln M 71)) ∧
      ((M 71 ((2 * y1) + y4).toNatClampNeg) = 0 →
        cs_bd (y4 + 1) fun (z14 : Int32) =>
        pre_Mo_useAt_L28 fuel M j y1 y3 z14
      ) ∧ (¬ ((M 71 ((2 * y1) + y4).toNatClampNeg) = 0) →
        (y3 = 0 →
          (vp_in ((2 * y1) + y4) (cs_ln M 70)) ∧
          True
        ) ∧ (¬ (y3 = 0) →
          cs_bd (y3 + (-1)) fun (z11 : Int32) =>
          cs_bd (y4 + 1) fun (z12 : Int32) =>
          pre_Mo_useAt_L28 fuel M j y1 z11 z12
        )
      )
    )
def f_Mo_useAt_J25 (M : cs_Mem) (j : Nat) (y1 : Int32) (y3 : Int32) : Int32 :=
  f_Mo_useAt_L28 10 M j y1 y3 0
def pre_Mo_useAt_J25 (M : cs_Mem) (j : Nat) (y1 : Int32) (y3 : Int32) : Prop :=
  pre_Mo_useAt_L28 10 M j y1 y3 0
def f_Mo_useAt (M : cs_Mem) (j : Nat) (x1 : Int32) (x2 : Int32) : Int32 :=
  if (M 63 x1.toNatClampNeg) < 0 then
    f_Mo_useAt_J25 M j x1 x2
  else
    if x2 = 0 then
      M 63 x1.toNatClampNeg
    else
      cs_bd (x2 + (-1)) fun (z4 : Int32) =>
      f_Mo_useAt_J25 M j x1 z4
def pre_Mo_useAt (M : cs_Mem) (j : Nat) (x1 : Int32) (x2 : Int32) : Prop :=
  (vp_in x1 (cs_ln M 63)) ∧
  ((M 63 x1.toNatClampNeg) < 0 →
    pre_Mo_useAt_J25 M j x1 x2
  ) ∧ (¬ ((M 63 x1.toNatClampNeg) < 0) →
    (x2 = 0 →
      (vp_in x1 (cs_ln M 63)) ∧
      True
    ) ∧ (¬ (x2 = 0) →
      cs_bd (x2 + (-1)) fun (z4 : Int32) =>
      pre_Mo_useAt_J25 M j x1 z4
    )
  )
set_option maxHeartbeats 4000000 in
set_option maxRecDepth 100000 in
theorem w_Mo_useAt_L28 {p : Program} {l : Launch} {e : Env} {s : State} {m : MethodId} {args : Array Value} {below : List Frame} {meth : Method} {c : Code} {D : va_G} {cA : Nat → ClassId} {A : Nat → Prop} {ad : Nat → Nat} {F : Int32} (hC : cs_Ctx p s m args c prog_8_method_12_code 5 "ClassStarterModel" D cA A) (hr : meth.sig.returnType = (some .int)) (hlk : meth.locks = false) (fuel : Nat) : ∀ (M : cs_Mem) (j : Nat) (y1 : Int32) (y3 : Int32) (y4 : Int32) (H : Heap) (locs : List Loc) (ls : Array Slot), cs_Wd D cA ad M A s H locs → lv_has ls 5 [(0, .ref (ad j)), (1, .int y1), (3, .int y3), (4, .int y4)] → cs_is 5 j → pre_Mo_useAt_L28 fuel M j y1 y3 y4 → F = f_Mo_useAt_L28 fuel M j y1 y3 y4 → W p l e ({ frames := 0, cells := 0, slots := 0, locals := 0 }) s m args below meth c H locs 0 0 (MQ below (cs_Qi D cA ad (F, M) A) args s 0 0 A) (F0 m 28 ls []) := by
  have hx := hC.1
  have hb := hC.2.1
  induction fuel with
  | zero =>
    intro M j y1 y3 y4 H locs ls hw hl g0 hp hf
    exact absurd hp (by simp [pre_Mo_useAt_L28])
  | succ fuel ih =>
    intro M j y1 y3 y4 H locs ls hw hl g0 hp hf
    rw [f_Mo_useAt_L28] at hf
    rw [pre_Mo_useAt_L28] at hp
    refine lv_iload hx hb d_Mo_useAt_28 (lv_at hl 3 rfl) ?_
    refine lv_aload_n hx hb d_Mo_useAt_30 rfl (lv_at hl 0 rfl) ?_
    refine gf_Mo_interfaces hC hw g0 wd_552 d_Mo_useAt_31 ?_
    refine lv_iload_n hx hb d_Mo_useAt_34 rfl (lv_at hl 1 rfl) ?_
    have o6 := hp.1
    have hp := hp.2
    refine cs_iald hC hw is_65 o6 d_Mo_useAt_35 ?_
    refine lv_icmp_ge (tgt := 81) hx hb d_Mo_useAt_36 (by decide) (fun c7 => ?_) (fun c7 => ?_)
    · have hp := hp.1 c7
      have hf := hf.trans (if_pos c7)
      refine lv_iconst (v := (-1)) hx hb d_Mo_useAt_81 (by decide) ?_
      exact cs_iret hC hw hr hlk (congrArg (fun z => (z, M)) hf) d_Mo_useAt_82
    · have hp := hp.2 c7
      have hf := hf.trans (if_neg c7)
      refine lv_aload_n hx hb d_Mo_useAt_39 rfl (lv_at hl 0 rfl) ?_
      refine gf_Mo_defaulted hC hw g0 wd_558 d_Mo_useAt_40 ?_
      refine lv_iconst (v := 2) hx hb d_Mo_useAt_43 (by decide) ?_
      refine lv_iload_n hx hb d_Mo_useAt_44 rfl (lv_at hl 1 rfl) ?_
      refine lv_imul hx hb d_Mo_useAt_45 ?_
      refine lv_iload hx hb d_Mo_useAt_46 (lv_at hl 3 rfl) ?_
      refine lv_iadd hx hb d_Mo_useAt_48 ?_
      have o8 := hp.1
      have hp := hp.2
      refine cs_zald hC hw is_71 o8 d_Mo_useAt_49 ?_
      refine lv_if_ne (tgt := 56) hx hb d_Mo_useAt_50 (by decide) (fun c9 => ?_) (fun c9 => ?_)
      · have hp := hp.2 c9
        have hf := hf.trans (if_neg c9)
        refine lv_iload_n hx hb d_Mo_useAt_56 rfl (lv_at hl 2 rfl) ?_
        refine lv_if_ne (tgt := 72) hx hb d_Mo_useAt_57 (by decide) (fun c10 => ?_) (fun c10 => ?_)
        · have hp := hp.2 c10
          have hf := hf.trans (if_neg c10)
          obtain ⟨z11, ez11⟩ : ∃ y : Int32, y = y3 + (-1) := ⟨_, rfl⟩
          have hp := cs_bdP ez11 hp
          have hf := cs_bdE ez11 hf
          refine lv_iinc (v := z11) (lv' := [(3, .int z11), (0, .ref (ad j)), (1, .int y1), (4, .int y4)]) hx hb d_Mo_useAt_72 hl (k := 2) rfl (by rw [ez11]; rfl) (by decide) rfl (fun ls hl => ?_)
          obtain ⟨z12, ez12⟩ : ∃ y : Int32, y = y4 + 1 := ⟨_, rfl⟩
          have hp := cs_bdP ez12 hp
          have hf := cs_bdE ez12 hf
          refine lv_iinc (v := z12) (lv' := [(4, .int z12), (3, .int z11), (0, .ref (ad j)), (1, .int y1)]) hx hb d_Mo_useAt_75 hl (k := 3) rfl (by rw [ez12]; rfl) (by decide) rfl (fun ls hl => ?_)
          refine lv_goto (tgt := 28) hx hb d_Mo_useAt_78 (by decide) ?_
          exact ih M j y1 z11 z12 _ _ ls hw (lv_sub hl [2, 3, 1, 0] rfl) g0 hp hf
        · have hp := hp.1 c10
          have hf := hf.trans (if_pos c10)
          refine lv_aload_n hx hb d_Mo_useAt_60 rfl (lv_at hl 0 rfl) ?_
          refine gf_Mo_iface hC hw g0 wd_557 d_Mo_useAt_61 ?_
          refine lv_iconst (v := 2) hx hb d_Mo_useAt_64 (by decide) ?_
          refine lv_iload_n hx hb d_Mo_useAt_65 rfl (lv_at hl 1 rfl) ?_
          refine lv_imul hx hb d_Mo_useAt_66 ?_
          refine lv_iload hx hb d_Mo_useAt_67 (lv_at hl 3 rfl) ?_
          refine lv_iadd hx hb d_Mo_useAt_69 ?_
          have o13 := hp.1
          have hp := hp.2
          refine cs_iald hC hw is_70 o13 d_Mo_useAt_70 ?_
          exact cs_iret hC hw hr hlk (congrArg (fun z => (z, M)) hf) d_Mo_useAt_71
      · have hp := hp.1 c9
        have hf := hf.trans (if_pos c9)
        refine lv_goto (tgt := 75) hx hb d_Mo_useAt_53 (by decide) ?_
        obtain ⟨z14, ez14⟩ : ∃ y : Int32, y = y4 + 1 := ⟨_, rfl⟩
        have hp := cs_bdP ez14 hp
        have hf := cs_bdE ez14 hf
        refine lv_iinc (v := z14) (lv' := [(4, .int z14), (0, .ref (ad j)), (1, .int y1), (3, .int y3)]) hx hb d_Mo_useAt_75 hl (k := 3) rfl (by rw [ez14]; rfl) (by decide) rfl (fun ls hl => ?_)
        refine lv_goto (tgt := 28) hx hb d_Mo_useAt_78 (by decide) ?_
        exact ih M j y1 y3 z14 _ _ ls hw (lv_sub hl [1, 2, 3, 0] rfl) g0 hp hf
set_option maxHeartbeats 4000000 in
set_option maxRecDepth 100000 in
theorem w_Mo_useAt_J25 {p : Program} {l : Launch} {e : Env} {s : State} {m : MethodId} {args : Array Value} {below : List Frame} {meth : Method} {c : Code} {D : va_G} {cA : Nat → ClassId} {A : Nat → Prop} {ad : Nat → Nat} {F : Int32} (hC : cs_Ctx p s m args c prog_8_method_12_code 5 "ClassStarterModel" D cA A) (hr : meth.sig.returnType = (some .int)) (hlk : meth.locks = false) : ∀ (M : cs_Mem) (j : Nat) (y1 : Int32) (y3 : Int32) (H : Heap) (locs : List Loc) (ls : Array Slot), cs_Wd D cA ad M A s H locs → lv_has ls 5 [(0, .ref (ad j)), (1, .int y1), (3, .int y3)] → cs_is 5 j → pre_Mo_useAt_J25 M j y1 y3 → F = f_Mo_useAt_J25 M j y1 y3 → W p l e ({ frames := 0, cells := 0, slots := 0, locals := 0 }) s m args below meth c H locs 0 0 (MQ below (cs_Qi D cA ad (F, M) A) args s 0 0 A) (F0 m 25 ls []) := by
  have hx := hC.1
  have hb := hC.2.1
  intro M j y1 y3 H locs ls hw hl g0 hp hf
  unfold f_Mo_useAt_J25 at hf
  unfold pre_Mo_useAt_J25 at hp
  refine lv_iconst (v := 0) hx hb d_Mo_useAt_25 (by decide) ?_
  refine lv_istore (lv' := [(4, .int 0), (0, .ref (ad j)), (1, .int y1), (3, .int y3)]) hx hb d_Mo_useAt_26 hl (by decide) rfl (fun ls hl => ?_)
  exact w_Mo_useAt_L28 hC hr hlk 10 M j y1 y3 0 _ _ ls hw (lv_sub hl [1, 2, 3, 0] rfl) g0 hp hf
set_option maxHeartbeats 4000000 in
set_option maxRecDepth 100000 in
theorem c_Mo_useAt (l : Launch) (D : va_G) (cA : Nat → ClassId) (ad : Nat → Nat) (M : cs_Mem) (j : Nat) (hj : cs_is 5 j) (x1 : Int32) (x2 : Int32) (hp : pre_Mo_useAt M j x1 x2) : cs_Ci l ⟨"ClassStarterModel", "useAt", "(II)I"⟩ prog_8_method_12_code 5 (some .int) ({ frames := 0, cells := 0, slots := 0, locals := 0 }) D cA ad M [.ref (ad j), .int x1, .int x2] ((f_Mo_useAt M j x1 x2, M)) := by
  refine cs_entry (by decide) (Nat.le_of_ble_eq_true rfl) (fun p e s m below meth c A ls hC hr hlk _ hw hl => ?_)
  have hx := hC.1
  have hb := hC.2.1
  have hl : lv_has ls 5 [(0, .ref (ad j)), (1, .int x1), (2, .int x2)] := hl
  generalize hF : f_Mo_useAt M j x1 x2 = F
  have hf := hF.symm
  unfold f_Mo_useAt at hf
  unfold pre_Mo_useAt at hp
  refine lv_iload_n hx hb d_Mo_useAt_0 rfl (lv_at hl 2 rfl) ?_
  refine lv_istore_n (lv' := [(3, .int x2), (0, .ref (ad j)), (1, .int x1), (2, .int x2)]) hx hb d_Mo_useAt_1 rfl hl (by decide) rfl (fun ls hl => ?_)
  refine lv_aload_n hx hb d_Mo_useAt_2 rfl (lv_at hl 1 rfl) ?_
  refine gf_Mo_parent hC hw hj wd_550 d_Mo_useAt_3 ?_
  refine lv_iload_n hx hb d_Mo_useAt_6 rfl (lv_at hl 2 rfl) ?_
  have o1 := hp.1
  have hp := hp.2
  refine cs_iald hC hw is_63 o1 d_Mo_useAt_7 ?_
  refine lv_if_lt (tgt := 25) hx hb d_Mo_useAt_8 (by decide) (fun c2 => ?_) (fun c2 => ?_)
  · have hp := hp.1 c2
    have hf := hf.trans (if_pos c2)
    exact w_Mo_useAt_J25 hC hr hlk M j x1 x2 _ _ ls hw (lv_sub hl [1, 2, 0] rfl) hj hp hf
  · have hp := hp.2 c2
    have hf := hf.trans (if_neg c2)
    refine lv_iload_n hx hb d_Mo_useAt_11 rfl (lv_at hl 0 rfl) ?_
    refine lv_if_ne (tgt := 22) hx hb d_Mo_useAt_12 (by decide) (fun c3 => ?_) (fun c3 => ?_)
    · have hp := hp.2 c3
      have hf := hf.trans (if_neg c3)
      obtain ⟨z4, ez4⟩ : ∃ y : Int32, y = x2 + (-1) := ⟨_, rfl⟩
      have hp := cs_bdP ez4 hp
      have hf := cs_bdE ez4 hf
      refine lv_iinc (v := z4) (lv' := [(3, .int z4), (0, .ref (ad j)), (1, .int x1), (2, .int x2)]) hx hb d_Mo_useAt_22 hl (k := 0) rfl (by rw [ez4]; rfl) (by decide) rfl (fun ls hl => ?_)
      exact w_Mo_useAt_J25 hC hr hlk M j x1 z4 _ _ ls hw (lv_sub hl [1, 2, 0] rfl) hj hp hf
    · have hp := hp.1 c3
      have hf := hf.trans (if_pos c3)
      refine lv_aload_n hx hb d_Mo_useAt_15 rfl (lv_at hl 1 rfl) ?_
      refine gf_Mo_parent hC hw hj wd_550 d_Mo_useAt_16 ?_
      refine lv_iload_n hx hb d_Mo_useAt_19 rfl (lv_at hl 2 rfl) ?_
      have o5 := hp.1
      have hp := hp.2
      refine cs_iald hC hw is_63 o5 d_Mo_useAt_20 ?_
      exact cs_iret hC hw hr hlk (congrArg (fun z => (z, M)) hf) d_Mo_useAt_21
