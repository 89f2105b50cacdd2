theorem d_Pr_isDeclared_0 : decode prog_5_method_3_code 0 = .ok (.iload_n 1, 1) := by decide +kernel
theorem d_Pr_isDeclared_1 : decode prog_5_method_3_code 1 = .ok (.ifCond .lt 15, 3) := by decide +kernel
theorem d_Pr_isDeclared_4 : decode prog_5_method_3_code 4 = .ok (.iload_n 1, 1) := by decide +kernel
theorem d_Pr_isDeclared_5 : decode prog_5_method_3_code 5 = .ok (.aload_n 0, 1) := by decide +kernel
theorem d_Pr_isDeclared_6 : decode prog_5_method_3_code 6 = .ok (.getfield 37, 3) := by decide +kernel
theorem d_Pr_isDeclared_9 : decode prog_5_method_3_code 9 = .ok (.if_icmp .ge 7, 3) := by decide +kernel
theorem d_Pr_isDeclared_12 : decode prog_5_method_3_code 12 = .ok (.iconst 1, 1) := by decide +kernel
theorem d_Pr_isDeclared_13 : decode prog_5_method_3_code 13 = .ok (.goto 4, 3) := by decide +kernel
theorem d_Pr_isDeclared_16 : decode prog_5_method_3_code 16 = .ok (.iconst 0, 1) := by decide +kernel
theorem d_Pr_isDeclared_17 : decode prog_5_method_3_code 17 = .ok (.ireturn, 1) := by decide +kernel
def f_Pr_isDeclared (M : cs_Mem) (j : Nat) (x1 : Int32) : Int32 :=
  if x1 < 0 then
    0
  else
    if (M j 6) ≤ x1 then
      0
    else
      1
set_option maxHeartbeats 4000000 in
set_option maxRecDepth 100000 in
theorem c_Pr_isDeclared (l : Launch) (D : va_G) (cA : Nat → ClassId) (ad : Nat → Nat) (M : cs_Mem) (j : Nat) (hj : cs_is 1 j) (x1 : Int32) : cs_Ci l ⟨"ClassStarter$Program", "isDeclared", "(I)Z"⟩ prog_5_method_3_code 2 (some .boolean) ({ frames := 0, cells := 0, slots := 0, locals := 0 }) D cA ad M [.ref (ad j), .int x1] ((f_Pr_isDeclared M j x1, M)) := by
  refine cs_entry (by decide) (Nat.le_of_ble_eq_true rfl) (fun p e s m below meth c A ls hC hr hlk _ hw hl => ?_)
  have hx := hC.1
  have hb := hC.2.1
  have hl : lv_has ls 2 [(0, .ref (ad j)), (1, .int x1)] := hl
  generalize hF : f_Pr_isDeclared M j x1 = F
  have hf := hF.symm
  unfold f_Pr_isDeclared at hf
  refine lv_iload_n hx hb d_Pr_isDeclared_0 rfl (lv_at hl 1 rfl) ?_
  refine lv_if_lt (tgt := 16) hx hb d_Pr_isDeclared_1 (by decide) (fun c1 => ?_) (fun c1 => ?_)
  · have hf := hf.trans (if_pos c1)
    refine lv_iconst (v := 0) hx hb d_Pr_isDeclared_16 (by decide) ?_
    exact cs_zret hC hw hr hlk (Or.inl rfl) (congrArg (fun z => (z, M)) hf) d_Pr_isDeclared_17
  · have hf := hf.trans (if_neg c1)
    refine lv_iload_n hx hb d_Pr_isDeclared_4 rfl (lv_at hl 1 rfl) ?_
    refine lv_aload_n hx hb d_Pr_isDeclared_5 rfl (lv_at hl 0 rfl) ?_
    refine gf_Pr_classCount hC hw hj wd_101 d_Pr_isDeclared_6 ?_
    refine lv_icmp_ge (tgt := 16) hx hb d_Pr_isDeclared_9 (by decide) (fun c2 => ?_) (fun c2 => ?_)
    · have hf := hf.trans (if_pos c2)
      refine lv_iconst (v := 0) hx hb d_Pr_isDeclared_16 (by decide) ?_
      exact cs_zret hC hw hr hlk (Or.inl rfl) (congrArg (fun z => (z, M)) hf) d_Pr_isDeclared_17
    · have hf := hf.trans (if_neg c2)
      refine lv_iconst (v := 1) hx hb d_Pr_isDeclared_12 (by decide) ?_
      refine lv_goto (tgt := 17) hx hb d_Pr_isDeclared_13 (by decide) ?_
      exact cs_zret hC hw hr hlk (Or.inr rfl) (congrArg (fun z => (z, M)) hf) d_Pr_isDeclared_17
theorem d_Pr_addClass_0 : decode prog_5_method_6_code 0 = .ok (.iload_n 1, 1) := by decide +kernel
theorem d_Pr_addClass_1 : decode prog_5_method_6_code 1 = .ok (.iconst (-1), 1) := by decide +kernel
theorem d_Pr_addClass_2 : decode prog_5_method_6_code 2 = .ok (.if_icmp .eq 26, 3) := by decide +kernel
theorem d_Pr_addClass_5 : decode prog_5_method_6_code 5 = .ok (.iload_n 2, 1) := by decide +kernel
theorem d_Pr_addClass_6 : decode prog_5_method_6_code 6 = .ok (.ifCond .ne 20, 3) := by decide +kernel
theorem d_Pr_addClass_9 : decode prog_5_method_6_code 9 = .ok (.aload_n 0, 1) := by decide +kernel
theorem d_Pr_addClass_10 : decode prog_5_method_6_code 10 = .ok (.iload_n 1, 1) := by decide +kernel
theorem d_Pr_addClass_11 : decode prog_5_method_6_code 11 = .ok (.invokevirtual 41, 3) := by decide +kernel
theorem d_Pr_addClass_14 : decode prog_5_method_6_code 14 = .ok (.ifCond .eq 12, 3) := by decide +kernel
theorem d_Pr_addClass_17 : decode prog_5_method_6_code 17 = .ok (.aload_n 0, 1) := by decide +kernel
theorem d_Pr_addClass_18 : decode prog_5_method_6_code 18 = .ok (.getfield 9, 3) := by decide +kernel
theorem d_Pr_addClass_21 : decode prog_5_method_6_code 21 = .ok (.iload_n 1, 1) := by decide +kernel
theorem d_Pr_addClass_22 : decode prog_5_method_6_code 22 = .ok (.baload, 1) := by decide +kernel
theorem d_Pr_addClass_23 : decode prog_5_method_6_code 23 = .ok (.ifCond .eq 5, 3) := by decide +kernel
theorem d_Pr_addClass_26 : decode prog_5_method_6_code 26 = .ok (.iconst (-1), 1) := by decide +kernel
theorem d_Pr_addClass_27 : decode prog_5_method_6_code 27 = .ok (.ireturn, 1) := by decide +kernel
theorem d_Pr_addClass_28 : decode prog_5_method_6_code 28 = .ok (.aload_n 0, 1) := by decide +kernel
theorem d_Pr_addClass_29 : decode prog_5_method_6_code 29 = .ok (.getfield 37, 3) := by decide +kernel
theorem d_Pr_addClass_32 : decode prog_5_method_6_code 32 = .ok (.bipush 8, 2) := by decide +kernel
theorem d_Pr_addClass_34 : decode prog_5_method_6_code 34 = .ok (.if_icmp .lt 6, 3) := by decide +kernel
theorem d_Pr_addClass_37 : decode prog_5_method_6_code 37 = .ok (.bipush (-2), 2) := by decide +kernel
theorem d_Pr_addClass_39 : decode prog_5_method_6_code 39 = .ok (.ireturn, 1) := by decide +kernel
theorem d_Pr_addClass_40 : decode prog_5_method_6_code 40 = .ok (.aload_n 0, 1) := by decide +kernel
theorem d_Pr_addClass_41 : decode prog_5_method_6_code 41 = .ok (.getfield 37, 3) := by decide +kernel
theorem d_Pr_addClass_44 : decode prog_5_method_6_code 44 = .ok (.istore 5, 2) := by decide +kernel
theorem d_Pr_addClass_46 : decode prog_5_method_6_code 46 = .ok (.aload_n 0, 1) := by decide +kernel
theorem d_Pr_addClass_47 : decode prog_5_method_6_code 47 = .ok (.dup, 1) := by decide +kernel
theorem d_Pr_addClass_48 : decode prog_5_method_6_code 48 = .ok (.getfield 37, 3) := by decide +kernel
theorem d_Pr_addClass_51 : decode prog_5_method_6_code 51 = .ok (.iconst 1, 1) := by decide +kernel
theorem d_Pr_addClass_52 : decode prog_5_method_6_code 52 = .ok (.iadd, 1) := by decide +kernel
theorem d_Pr_addClass_53 : decode prog_5_method_6_code 53 = .ok (.putfield 37, 3) := by decide +kernel
theorem d_Pr_addClass_56 : decode prog_5_method_6_code 56 = .ok (.aload_n 0, 1) := by decide +kernel
theorem d_Pr_addClass_57 : decode prog_5_method_6_code 57 = .ok (.getfield 9, 3) := by decide +kernel
theorem d_Pr_addClass_60 : decode prog_5_method_6_code 60 = .ok (.iload 5, 2) := by decide +kernel
theorem d_Pr_addClass_62 : decode prog_5_method_6_code 62 = .ok (.iload_n 2, 1) := by decide +kernel
theorem d_Pr_addClass_63 : decode prog_5_method_6_code 63 = .ok (.bastore, 1) := by decide +kernel
theorem d_Pr_addClass_64 : decode prog_5_method_6_code 64 = .ok (.aload_n 0, 1) := by decide +kernel
theorem d_Pr_addClass_65 : decode prog_5_method_6_code 65 = .ok (.getfield 15, 3) := by decide +kernel
theorem d_Pr_addClass_68 : decode prog_5_method_6_code 68 = .ok (.iload 5, 2) := by decide +kernel
theorem d_Pr_addClass_70 : decode prog_5_method_6_code 70 = .ok (.iload_n 3, 1) := by decide +kernel
theorem d_Pr_addClass_71 : decode prog_5_method_6_code 71 = .ok (.bastore, 1) := by decide +kernel
theorem d_Pr_addClass_72 : decode prog_5_method_6_code 72 = .ok (.aload_n 0, 1) := by decide +kernel
theorem d_Pr_addClass_73 : decode prog_5_method_6_code 73 = .ok (.getfield 18, 3) := by decide +kernel
theorem d_Pr_addClass_76 : decode prog_5_method_6_code 76 = .ok (.iload 5, 2) := by decide +kernel
theorem d_Pr_addClass_78 : decode prog_5_method_6_code 78 = .ok (.iload_n 3, 1) := by decide +kernel
theorem d_Pr_addClass_79 : decode prog_5_method_6_code 79 = .ok (.ifCond .eq 8, 3) := by decide +kernel
theorem d_Pr_addClass_82 : decode prog_5_method_6_code 82 = .ok (.iload 4, 2) := by decide +kernel
theorem d_Pr_addClass_84 : decode prog_5_method_6_code 84 = .ok (.goto 4, 3) := by decide +kernel
theorem d_Pr_addClass_87 : decode prog_5_method_6_code 87 = .ok (.iconst 0, 1) := by decide +kernel
theorem d_Pr_addClass_88 : decode prog_5_method_6_code 88 = .ok (.iastore, 1) := by decide +kernel
theorem d_Pr_addClass_89 : decode prog_5_method_6_code 89 = .ok (.iload_n 1, 1) := by decide +kernel
theorem d_Pr_addClass_90 : decode prog_5_method_6_code 90 = .ok (.iconst (-1), 1) := by decide +kernel
theorem d_Pr_addClass_91 : decode prog_5_method_6_code 91 = .ok (.if_icmp .eq 14, 3) := by decide +kernel
theorem d_Pr_addClass_94 : decode prog_5_method_6_code 94 = .ok (.aload_n 0, 1) := by decide +kernel
theorem d_Pr_addClass_95 : decode prog_5_method_6_code 95 = .ok (.getfield 30, 3) := by decide +kernel
theorem d_Pr_addClass_98 : decode prog_5_method_6_code 98 = .ok (.iload 5, 2) := by decide +kernel
theorem d_Pr_addClass_100 : decode prog_5_method_6_code 100 = .ok (.aaload, 1) := by decide +kernel
theorem d_Pr_addClass_101 : decode prog_5_method_6_code 101 = .ok (.iload_n 1, 1) := by decide +kernel
theorem d_Pr_addClass_102 : decode prog_5_method_6_code 102 = .ok (.invokevirtual 45, 3) := by decide +kernel
theorem d_Pr_addClass_105 : decode prog_5_method_6_code 105 = .ok (.iload 5, 2) := by decide +kernel
theorem d_Pr_addClass_107 : decode prog_5_method_6_code 107 = .ok (.ireturn, 1) := by decide +kernel
def f_Pr_addClass_J28 (M : cs_Mem) (j : Nat) (y1 : Int32) (y2 : Int32) (y3 : Int32) (y4 : Int32) : Int32 × cs_Mem :=
  if (M j 6) < 8 then
    cs_bd (M j 6) fun (z8 : Int32) =>
    cs_bd (cs_up M j (upd (M j) 6 ((M j 6) + 1))) fun (N9 : cs_Mem) =>
    cs_bd (cs_up N9 2 (upd (N9 2) z8.toNatClampNeg (vp_nar .boolean y2))) fun (N11 : cs_Mem) =>
    cs_bd (cs_up N11 3 (upd (N11 3) z8.toNatClampNeg (vp_nar .boolean y3))) fun (N13 : cs_Mem) =>
    if y3 = 0 then
      cs_bd (cs_up N13 4 (upd (N13 4) z8.toNatClampNeg 0)) fun (N16 : cs_Mem) =>
      if y1 = (-1) then
        (z8, N16)
      else
        cs_bd (f_Sc_addUseAhead N16 (8 + 4 * z8.toNatClampNeg) y1) fun (u20 : cs_Mem) =>
        (z8, u20)
    else
      cs_bd (cs_up N13 4 (upd (N13 4) z8.toNatClampNeg y4)) fun (N22 : cs_Mem) =>
      if y1 = (-1) then
        (z8, N22)
      else
        cs_bd (f_Sc_addUseAhead N22 (8 + 4 * z8.toNatClampNeg) y1) fun (u26 : cs_Mem) =>
        (z8, u26)
  else
    ((-2), M)
def pre_Pr_addClass_J28 (M : cs_Mem) (j : Nat) (y1 : Int32) (y2 : Int32) (y3 : Int32) (y4 : Int32) : Prop :=
  ((M j 6) < 8 →
    cs_bd (M j 6) fun (z8 : Int32) =>
    cs_bd (cs_up M j (upd (M j) 6 ((M j 6) + 1))) fun (N9 : cs_Mem) =>
    (vp_in z8 (cs_ln N9 2)) ∧
    cs_bd (cs_up N9 2 (upd (N9 2) z8.toNatClampNeg (vp_nar .boolean y2))) fun (N11 : cs_Mem) =>
    (vp_in z8 (cs_ln N11 3)) ∧
    cs_bd (cs_up N11 3 (upd (N11 3) z8.toNatClampNeg (vp_nar .boolean y3))) fun (N13 : cs_Mem) =>
    (y3 = 0 →
      (vp_in z8 (cs_ln N13 4)) ∧
      cs_bd (cs_up N13 4 (upd (N13 4) z8.toNatClampNeg 0)) fun (N16 : cs_Mem) =>
      (y1 = (-1) →
        True
      ) ∧ (¬ (y1 = (-1)) →
        (vp_in z8 11) ∧
        (pre_Sc_addUseAhead N16 (8 + 4 * z8.toNatClampNeg) y1) ∧
        True
      )
    ) ∧ (¬ (y3 = 0) →
      (vp_in z8 (cs_ln N13 4)) ∧
      cs_bd (cs_up N13 4 (upd (N13 4) z8.toNatClampNeg y4)) fun (N22 : cs_Mem) =>
      (y1 = (-1) →
        True
      ) ∧ (¬ (y1 = (-1)) →
        (vp_in z8 11) ∧
        (pre_Sc_addUseAhead N22 (8 + 4 * z8.toNatClampNeg) y1) ∧
        True
      )
    )
  ) ∧ (¬ ((M j 6) < 8) →
    True
  )
def f_Pr_addClass_J26 (M : cs_Mem)  : Int32 × cs_Mem :=
  ((-1), M)
def f_Pr_addClass (M : cs_Mem) (j : Nat) (x1 : Int32) (x2 : Int32) (x3 : Int32) (x4 : Int32) : Int32 × cs_Mem :=
  if x1 = (-1) then
    f_Pr_addClass_J28 M j x1 x2 x3 x4
  else
    if x2 = 0 then
      cs_bd (f_Pr_isDeclared M j x1) fun (r3 : Int32) =>
      if r3 = 0 then
        f_Pr_addClass_J26 M 
      else
        if (M 2 x1.toNatClampNeg) = 0 then
          f_Pr_addClass_J28 M j x1 x2 x3 x4
        else
          f_Pr_addClass_J26 M 
    else
      f_Pr_addClass_J26 M 
def pre_Pr_addClass (M : cs_Mem) (j : Nat) (x1 : Int32) (x2 : Int32) (x3 : Int32) (x4 : Int32) : Prop :=
  (x1 = (-1) →
    pre_Pr_addClass_J28 M j x1 x2 x3 x4
  ) ∧ (¬ (x1 = (-1)) →
    (x2 = 0 →
      cs_bd (f_Pr_isDeclared M j x1) fun (r3 : Int32) =>
      (r3 = 0 →
        True
      ) ∧ (¬ (r3 = 0) →
        (vp_in x1 (cs_ln M 2)) ∧
        ((M 2 x1.toNatClampNeg) = 0 →
          pre_Pr_addClass_J28 M j x1 x2 x3 x4
        ) ∧ (¬ ((M 2 x1.toNatClampNeg) = 0) →
          True
        )
      )
    ) ∧ (¬ (x2 = 0) →
      True
    )
  )
set_option maxHeartbeats 4000000 in
set_option maxRecDepth 100000 in
theorem w_Pr_addClass_J28 {p : Program} {l : Launch} {e : Env} {s : State} {m : MethodId} {args : Array Value} {below : List Frame} {meth : Method} {c : Code} {D : va_G} {cA : Nat → ClassId} {A : Nat → Prop} {ad : Nat → Nat} {F : Int32 × cs_Mem} (hC : cs_Ctx p s m args c prog_5_method_6_code 6 "ClassStarter$Program" D cA A) (hr : meth.sig.returnType = (some .int)) (hlk : meth.locks = false) : ∀ (M : cs_Mem) (j : Nat) (y1 : Int32) (y2 : Int32) (y3 : Int32) (y4 : Int32) (H : Heap) (locs : List Loc) (ls : Array Slot), cs_Wd D cA ad M A s H locs → lv_has ls 6 [(0, .ref (ad j)), (1, .int y1), (2, .int y2), (3, .int y3), (4, .int y4)] → cs_is 1 j → pre_Pr_addClass_J28 M j y1 y2 y3 y4 → F = f_Pr_addClass_J28 M j y1 y2 y3 y4 → W p l e ({ frames := 2, cells := 0, slots := 0, locals := 62 }) s m args below meth c H locs 0 0 (MQ below (cs_Qi D cA ad F A) args s 0 0 A) (F0 m 28 ls []) := by
  have hx := hC.1
  have hb := hC.2.1
  intro M j y1 y2 y3 y4 H locs ls hw hl g0 hp hf
  unfold f_Pr_addClass_J28 at hf
  unfold pre_Pr_addClass_J28 at hp
  refine lv_aload_n hx hb d_Pr_addClass_28 rfl (lv_at hl 0 rfl) ?_
  refine gf_Pr_classCount hC hw g0 wd_101 d_Pr_addClass_29 ?_
  refine lv_bipush (v := 8) hx hb d_Pr_addClass_32 (by decide) ?_
  refine lv_icmp_lt (tgt := 40) hx hb d_Pr_addClass_34 (by decide) (fun c7 => ?_) (fun c7 => ?_)
  · have hp := hp.1 c7
    have hf := hf.trans (if_pos c7)
    refine lv_aload_n hx hb d_Pr_addClass_40 rfl (lv_at hl 0 rfl) ?_
    refine gf_Pr_classCount hC hw g0 wd_101 d_Pr_addClass_41 ?_
    refine lv_topi (fun z8 ez8 => ?_)
    have hp := cs_bdP ez8 hp
    have hf := cs_bdE ez8 hf
    refine lv_istore (lv' := [(5, .int z8), (0, .ref (ad j)), (1, .int y1), (2, .int y2), (3, .int y3), (4, .int y4)]) hx hb d_Pr_addClass_44 hl (by decide) rfl (fun ls hl => ?_)
    refine lv_aload_n hx hb d_Pr_addClass_46 rfl (lv_at hl 1 rfl) ?_
    refine lv_dup hx hb d_Pr_addClass_47 rfl ?_
    refine gf_Pr_classCount hC hw g0 wd_101 d_Pr_addClass_48 ?_
    refine lv_iconst (v := 1) hx hb d_Pr_addClass_51 (by decide) ?_
    refine lv_iadd hx hb d_Pr_addClass_52 ?_
    refine pf_Pr_classCount hC hw g0 wd_101 d_Pr_addClass_53 (fun N9 H locs eN9 hw => ?_)
    have hp := cs_bdP eN9 hp
    have hf := cs_bdE eN9 hf
    refine lv_aload_n hx hb d_Pr_addClass_56 rfl (lv_at hl 1 rfl) ?_
    refine gf_Pr_interfaces hC hw g0 wd_95 d_Pr_addClass_57 ?_
    refine lv_iload hx hb d_Pr_addClass_60 (lv_at hl 0 rfl) ?_
    refine lv_iload_n hx hb d_Pr_addClass_62 rfl (lv_at hl 3 rfl) ?_
    have o10 := hp.1
    have hp := hp.2
    refine cs_zast hC hw is_2 o10 d_Pr_addClass_63 (fun N11 H locs eN11 hw => ?_)
    have hp := cs_bdP eN11 hp
    have hf := cs_bdE eN11 hf
    refine lv_aload_n hx hb d_Pr_addClass_64 rfl (lv_at hl 1 rfl) ?_
    refine gf_Pr_constants hC hw g0 wd_96 d_Pr_addClass_65 ?_
    refine lv_iload hx hb d_Pr_addClass_68 (lv_at hl 0 rfl) ?_
    refine lv_iload_n hx hb d_Pr_addClass_70 rfl (lv_at hl 4 rfl) ?_
    have o12 := hp.1
    have hp := hp.2
    refine cs_zast hC hw is_3 o12 d_Pr_addClass_71 (fun N13 H locs eN13 hw => ?_)
    have hp := cs_bdP eN13 hp
    have hf := cs_bdE eN13 hf
    refine lv_aload_n hx hb d_Pr_addClass_72 rfl (lv_at hl 1 rfl) ?_
    refine gf_Pr_constantValues hC hw g0 wd_97 d_Pr_addClass_73 ?_
    refine lv_iload hx hb d_Pr_addClass_76 (lv_at hl 0 rfl) ?_
    refine lv_iload_n hx hb d_Pr_addClass_78 rfl (lv_at hl 4 rfl) ?_
    refine lv_if_eq (tgt := 87) hx hb d_Pr_addClass_79 (by decide) (fun c14 => ?_) (fun c14 => ?_)
    · have hp := hp.1 c14
      have hf := hf.trans (if_pos c14)
      refine lv_iconst (v := 0) hx hb d_Pr_addClass_87 (by decide) ?_
      have o15 := hp.1
      have hp := hp.2
      refine cs_iast hC hw is_4 o15 d_Pr_addClass_88 (fun N16 H locs eN16 hw => ?_)
      have hp := cs_bdP eN16 hp
      have hf := cs_bdE eN16 hf
      refine lv_iload_n hx hb d_Pr_addClass_89 rfl (lv_at hl 2 rfl) ?_
      refine lv_iconst (v := (-1)) hx hb d_Pr_addClass_90 (by decide) ?_
      refine lv_icmp_eq (tgt := 105) hx hb d_Pr_addClass_91 (by decide) (fun c17 => ?_) (fun c17 => ?_)
      · have hp := hp.1 c17
        have hf := hf.trans (if_pos c17)
        refine lv_iload hx hb d_Pr_addClass_105 (lv_at hl 0 rfl) ?_
        exact cs_iret hC hw hr hlk hf d_Pr_addClass_107
      · have hp := hp.2 c17
        have hf := hf.trans (if_neg c17)
        refine lv_aload_n hx hb d_Pr_addClass_94 rfl (lv_at hl 1 rfl) ?_
        refine gf_Pr_scripts hC hw g0 wd_100 d_Pr_addClass_95 ?_
        refine lv_iload hx hb d_Pr_addClass_98 (lv_at hl 0 rfl) ?_
        have o18 := hp.1
        have hp := hp.2
        refine cs_aald22 hC hw is_7 o18 d_Pr_addClass_100 ?_
        refine lv_iload_n hx hb d_Pr_addClass_101 rfl (lv_at hl 2 rfl) ?_
        have o19 := hp.1
        have hp := hp.2
        refine cs_ret_v hC hw (cs_runV (As := [.int y1]) (rest := []) hC hw (is_scr o18).2 (ci := 2) rfl rfl (cs_sg_is (is_scr o18)) (c_Sc_addUseAhead l D cA ad N16 (8 + 4 * z8.toNatClampNeg) (is_scr o18) y1 o19 _) rfl rfl cw_Pr_45 ⟨Nat.le_of_ble_eq_true rfl, Nat.le_of_ble_eq_true rfl⟩ hl.1 rfl rfl (Nat.le_of_ble_eq_true rfl) d_Pr_addClass_102 ⟨Nat.zero_le _, Nat.zero_le _⟩) (fun u20 H locs eu20 hw => ?_)
        have hf := cs_bdE eu20 hf
        refine lv_iload hx hb d_Pr_addClass_105 (lv_at hl 0 rfl) ?_
        exact cs_iret hC hw hr hlk hf d_Pr_addClass_107
    · have hp := hp.2 c14
      have hf := hf.trans (if_neg c14)
      refine lv_iload hx hb d_Pr_addClass_82 (lv_at hl 5 rfl) ?_
      refine lv_goto (tgt := 88) hx hb d_Pr_addClass_84 (by decide) ?_
      have o21 := hp.1
      have hp := hp.2
      refine cs_iast hC hw is_4 o21 d_Pr_addClass_88 (fun N22 H locs eN22 hw => ?_)
      have hp := cs_bdP eN22 hp
      have hf := cs_bdE eN22 hf
      refine lv_iload_n hx hb d_Pr_addClass_89 rfl (lv_at hl 2 rfl) ?_
      refine lv_iconst (v := (-1)) hx hb d_Pr_addClass_90 (by decide) ?_
      refine lv_icmp_eq (tgt := 105) hx hb d_Pr_addClass_91 (by decide) (fun c23 => ?_) (fun c23 => ?_)
      · have hp := hp.1 c23
        have hf := hf.trans (if_pos c23)
        refine lv_iload hx hb d_Pr_addClass_105 (lv_at hl 0 rfl) ?_
        exact cs_iret hC hw hr hlk hf d_Pr_addClass_107
      · have hp := hp.2 c23
        have hf := hf.trans (if_neg c23)
        refine lv_aload_n hx hb d_Pr_addClass_94 rfl (lv_at hl 1 rfl) ?_
        refine gf_Pr_scripts hC hw g0 wd_100 d_Pr_addClass_95 ?_
        refine lv_iload hx hb d_Pr_addClass_98 (lv_at hl 0 rfl) ?_
        have o24 := hp.1
        have hp := hp.2
        refine cs_aald22 hC hw is_7 o24 d_Pr_addClass_100 ?_
        refine lv_iload_n hx hb d_Pr_addClass_101 rfl (lv_at hl 2 rfl) ?_
        have o25 := hp.1
        have hp := hp.2
        refine cs_ret_v hC hw (cs_runV (As := [.int y1]) (rest := []) hC hw (is_scr o24).2 (ci := 2) rfl rfl (cs_sg_is (is_scr o24)) (c_Sc_addUseAhead l D cA ad N22 (8 + 4 * z8.toNatClampNeg) (is_scr o24) y1 o25 _) rfl rfl cw_Pr_45 ⟨Nat.le_of_ble_eq_true rfl, Nat.le_of_ble_eq_true rfl⟩ hl.1 rfl rfl (Nat.le_of_ble_eq_true rfl) d_Pr_addClass_102 ⟨Nat.zero_le _, Nat.zero_le _⟩) (fun u26 H locs eu26 hw => ?_)
        have hf := cs_bdE eu26 hf
        refine lv_iload hx hb d_Pr_addClass_105 (lv_at hl 0 rfl) ?_
        exact cs_iret hC hw hr hlk hf d_Pr_addClass_107
  · have hp := hp.2 c7
    have hf := hf.trans (if_neg c7)
    refine lv_bipush (v := (-2)) hx hb d_Pr_addClass_37 (by decide) ?_
    exact cs_iret hC hw hr hlk hf d_Pr_addClass_39
set_option maxHeartbeats 4000000 in
set_option maxRecDepth 100000 in
theorem w_Pr_addClass_J26 {p : Program} {l : Launch} {e : Env} {s : State} {m : MethodId} {args : Array Value} {below : List Frame} {meth : Method} {c : Code} {D : va_G} {cA : Nat → ClassId} {A : Nat → Prop} {ad : Nat → Nat} {F : Int32 × cs_Mem} (hC : cs_Ctx p s m args c prog_5_method_6_code 6 "ClassStarter$Program" D cA A) (hr : meth.sig.returnType = (some .int)) (hlk : meth.locks = false) : ∀ (M : cs_Mem) (H : Heap) (locs : List Loc) (ls : Array Slot), cs_Wd D cA ad M A s H locs → lv_has ls 6 [] → F = f_Pr_addClass_J26 M  → W p l e ({ frames := 2, cells := 0, slots := 0, locals := 62 }) s m args below meth c H locs 0 0 (MQ below (cs_Qi D cA ad F A) args s 0 0 A) (F0 m 26 ls []) := by
  have hx := hC.1
  have hb := hC.2.1
  intro M  H locs ls hw hl  hf
  unfold f_Pr_addClass_J26 at hf
  refine lv_iconst (v := (-1)) hx hb d_Pr_addClass_26 (by decide) ?_
  exact cs_iret hC hw hr hlk hf d_Pr_addClass_27
set_option maxHeartbeats 4000000 in
set_option maxRecDepth 100000 in
theorem c_Pr_addClass (l : Launch) (D : va_G) (cA : Nat → ClassId) (ad : Nat → Nat) (M : cs_Mem) (j : Nat) (hj : cs_is 1 j) (x1 : Int32) (x2 : Int32) (x3 : Int32) (x4 : Int32) (hp : pre_Pr_addClass M j x1 x2 x3 x4) : cs_Ci l ⟨"ClassStarter$Program", "addClass", "(IZZI)I"⟩ prog_5_method_6_code 6 (some .int) ({ frames := 2, cells := 0, slots := 0, locals := 62 }) D cA ad M [.ref (ad j), .int x1, .int x2, .int x3, .int x4] (f_Pr_addClass M j x1 x2 x3 x4) := by
  refine cs_entry (by decide) (Nat.le_of_ble_eq_true rfl) (fun p e s m below meth c A ls hC hr hlk _ hw hl => ?_)
  have hx := hC.1
  have hb := hC.2.1
  have hl : lv_has ls 6 [(0, .ref (ad j)), (1, .int x1), (2, .int x2), (3, .int x3), (4, .int x4)] := hl
  generalize hF : f_Pr_addClass M j x1 x2 x3 x4 = F
  have hf := hF.symm
  unfold f_Pr_addClass at hf
  unfold pre_Pr_addClass at hp
  refine lv_iload_n hx hb d_Pr_addClass_0 rfl (lv_at hl 1 rfl) ?_
  refine lv_iconst (v := (-1)) hx hb d_Pr_addClass_1 (by decide) ?_
  refine lv_icmp_eq (tgt := 28) hx hb d_Pr_addClass_2 (by decide) (fun c1 => ?_) (fun c1 => ?_)
  · have hp := hp.1 c1
    have hf := hf.trans (if_pos c1)
    exact w_Pr_addClass_J28 hC hr hlk M j x1 x2 x3 x4 _ _ ls hw (lv_sub hl [0, 1, 2, 3, 4] rfl) hj hp hf
  · have hp := hp.2 c1
    have hf := hf.trans (if_neg c1)
    refine lv_iload_n hx hb d_Pr_addClass_5 rfl (lv_at hl 2 rfl) ?_
    refine lv_if_ne (tgt := 26) hx hb d_Pr_addClass_6 (by decide) (fun c2 => ?_) (fun c2 => ?_)
    · have hp := hp.2 c2
      have hf := hf.trans (if_neg c2)
      exact w_Pr_addClass_J26 hC hr hlk M  _ _ ls hw (lv_sub hl [] rfl) hf
    · have hp := hp.1 c2
      have hf := hf.trans (if_pos c2)
      refine lv_aload_n hx hb d_Pr_addClass_9 rfl (lv_at hl 0 rfl) ?_
      refine lv_iload_n hx hb d_Pr_addClass_10 rfl (lv_at hl 1 rfl) ?_
      refine cs_ret_p hC hw (cs_runV (As := [.int x1]) (rest := []) hC hw hj.2 (ci := 1) rfl rfl (cs_sg_is hj) (c_Pr_isDeclared l D cA ad M j hj x1 _) rfl rfl cw_Pr_41 ⟨Nat.le_of_ble_eq_true rfl, Nat.le_of_ble_eq_true rfl⟩ hl.1 rfl rfl (Nat.le_of_ble_eq_true rfl) d_Pr_addClass_11 ⟨Nat.zero_le _, Nat.zero_le _⟩) (fun r3 H locs er3 hw => ?_)
      have hp := cs_bdP er3 hp
      have hf := cs_bdE er3 hf
      refine lv_if_eq (tgt := 26) hx hb d_Pr_addClass_14 (by decide) (fun c4 => ?_) (fun c4 => ?_)
      · have hp := hp.1 c4
        have hf := hf.trans (if_pos c4)
        exact w_Pr_addClass_J26 hC hr hlk M  _ _ ls hw (lv_sub hl [] rfl) hf
      · have hp := hp.2 c4
        have hf := hf.trans (if_neg c4)
        refine lv_aload_n hx hb d_Pr_addClass_17 rfl (lv_at hl 0 rfl) ?_
        refine gf_Pr_interfaces hC hw hj wd_95 d_Pr_addClass_18 ?_
        refine lv_iload_n hx hb d_Pr_addClass_21 rfl (lv_at hl 1 rfl) ?_
        have o5 := hp.1
        have hp := hp.2
        refine cs_zald hC hw is_2 o5 d_Pr_addClass_22 ?_
        refine lv_if_eq (tgt := 28) hx hb d_Pr_addClass_23 (by decide) (fun c6 => ?_) (fun c6 => ?_)
        · have hp := hp.1 c6
          have hf := hf.trans (if_pos c6)
          exact w_Pr_addClass_J28 hC hr hlk M j x1 x2 x3 x4 _ _ ls hw (lv_sub hl [0, 1, 2, 3, 4] rfl) hj hp hf
        · have hp := hp.2 c6
          have hf := hf.trans (if_neg c6)
          exact w_Pr_addClass_J26 hC hr hlk M  _ _ ls hw (lv_sub hl [] rfl) hf
theorem d_Pr_inherits_0 : decode prog_5_method_8_code 0 = .ok (.iconst 0, 1) := by decide +kernel
theorem d_Pr_inherits_1 : decode prog_5_method_8_code 1 = .ok (.istore_n 3, 1) := by decide +kernel
theorem d_Pr_inherits_2 : decode prog_5_method_8_code 2 = .ok (.iload_n 3, 1) := by decide +kernel
theorem d_Pr_inherits_3 : decode prog_5_method_8_code 3 = .ok (.aload_n 0, 1) := by decide +kernel
theorem d_Pr_inherits_4 : decode prog_5_method_8_code 4 = .ok (.getfield 25, 3) := by decide +kernel
theorem d_Pr_inherits_7 : decode prog_5_method_8_code 7 = .ok (.iload_n 1, 1) := by decide +kernel
theorem d_Pr_inherits_8 : decode prog_5_method_8_code 8 = .ok (.iaload, 1) := by decide +kernel
theorem d_Pr_inherits_9 : decode prog_5_method_8_code 9 = .ok (.if_icmp .ge 25, 3) := by decide +kernel
theorem d_Pr_inherits_12 : decode prog_5_method_8_code 12 = .ok (.aload_n 0, 1) := by decide +kernel
theorem d_Pr_inherits_13 : decode prog_5_method_8_code 13 = .ok (.getfield 22, 3) := by decide +kernel
theorem d_Pr_inherits_16 : decode prog_5_method_8_code 16 = .ok (.iload_n 1, 1) := by decide +kernel
theorem d_Pr_inherits_17 : decode prog_5_method_8_code 17 = .ok (.iconst 2, 1) := by decide +kernel
theorem d_Pr_inherits_18 : decode prog_5_method_8_code 18 = .ok (.imul, 1) := by decide +kernel
theorem d_Pr_inherits_19 : decode prog_5_method_8_code 19 = .ok (.iload_n 3, 1) := by decide +kernel
theorem d_Pr_inherits_20 : decode prog_5_method_8_code 20 = .ok (.iadd, 1) := by decide +kernel
theorem d_Pr_inherits_21 : decode prog_5_method_8_code 21 = .ok (.iaload, 1) := by decide +kernel
theorem d_Pr_inherits_22 : decode prog_5_method_8_code 22 = .ok (.iload_n 2, 1) := by decide +kernel
theorem d_Pr_inherits_23 : decode prog_5_method_8_code 23 = .ok (.if_icmp .ne 5, 3) := by decide +kernel
theorem d_Pr_inherits_26 : decode prog_5_method_8_code 26 = .ok (.iconst 1, 1) := by decide +kernel
theorem d_Pr_inherits_27 : decode prog_5_method_8_code 27 = .ok (.ireturn, 1) := by decide +kernel
theorem d_Pr_inherits_28 : decode prog_5_method_8_code 28 = .ok (.iinc 3 1, 3) := by decide +kernel
theorem d_Pr_inherits_31 : decode prog_5_method_8_code 31 = .ok (.goto (-29), 3) := by decide +kernel
theorem d_Pr_inherits_34 : decode prog_5_method_8_code 34 = .ok (.iconst 0, 1) := by decide +kernel
theorem d_Pr_inherits_35 : decode prog_5_method_8_code 35 = .ok (.ireturn, 1) := by decide +kernel
def f_Pr_inherits_L2 : Nat → cs_Mem → Nat → Int32 → Int32 → Int32 → Int32
  | 0, M, j, y1, y2, y3 => 0
  | fuel + 1, M, j, y1, y2, y3 =>
    if (M 6 y1.toNatClampNeg) ≤ y3 then
      0
    else
      if (M 5 ((y1 * 2) + y3).toNatClampNeg) = y2 then
        1
      else
        cs_bd (y3 + 1) fun (z5 : Int32) =>
        f_Pr_inherits_L2 fuel M j y1 y2 z5
def pre_Pr_inherits_L2 : Nat → cs_Mem → Nat → Int32 → Int32 → Int32 → Prop
  | 0, _, _, _, _, _ => False
  | fuel + 1, M, j, y1, y2, y3 =>
    (vp_in y1 (cs_ln M 6)) ∧
    ((M 6 y1.toNatClampNeg) ≤ y3 →
      True
    ) ∧ (¬ ((M 6 y1.toNatClampNeg) ≤ y3) →
      (vp_in ((y1 * 2) + y3) (cs_ln M 5)) ∧
      ((M 5 ((y1 * 2) + y3).toNatClampNeg) = y2 →
        True
      ) ∧ (¬ ((M 5 ((y1 * 2) + y3).toNatClampNeg) = y2) →
        cs_bd (y3 + 1) fun (z5 : Int32) =>
        pre_Pr_inherits_L2 fuel M j y1 y2 z5
      )
    )
def f_Pr_inherits (M : cs_Mem) (j : Nat) (x1 : Int32) (x2 : Int32) : Int32 :=
  f_Pr_inherits_L2 10 M j x1 x2 0
def pre_Pr_inherits (M : cs_Mem) (j : Nat) (x1 : Int32) (x2 : Int32) : Prop :=
  pre_Pr_inherits_L2 10 M j x1 x2 0
set_option maxHeartbeats 4000000 in
set_option maxRecDepth 100000 in
theorem w_Pr_inherits_L2 {p : Program} {l : Launch} {e : Env} {s : State} {m : MethodId} {args : Array Value} {below : List Frame} {meth : Method} {c : Code} {D : va_G} {cA : Nat → ClassId} {A : Nat → Prop} {ad : Nat → Nat} {F : Int32} (hC : cs_Ctx p s m args c prog_5_method_8_code 4 "ClassStarter$Program" D cA A) (hr : meth.sig.returnType = (some .boolean)) (hlk : meth.locks = false) (fuel : Nat) : ∀ (M : cs_Mem) (j : Nat) (y1 : Int32) (y2 : Int32) (y3 : Int32) (H : Heap) (locs : List Loc) (ls : Array Slot), cs_Wd D cA ad M A s H locs → lv_has ls 4 [(0, .ref (ad j)), (1, .int y1), (2, .int y2), (3, .int y3)] → cs_is 1 j → pre_Pr_inherits_L2 fuel M j y1 y2 y3 → F = f_Pr_inherits_L2 fuel M j y1 y2 y3 → W p l e ({ frames := 0, cells := 0, slots := 0, locals := 0 }) s m args below meth c H locs 0 0 (MQ below (cs_Qi D cA ad (F, M) A) args s 0 0 A) (F0 m 2 ls []) := by
  have hx := hC.1
  have hb := hC.2.1
  induction fuel with
  | zero =>
    intro M j y1 y2 y3 H locs ls hw hl g0 hp hf
    exact absurd hp (by simp [pre_Pr_inherits_L2])
  | succ fuel ih =>
    intro M j y1 y2 y3 H locs ls hw hl g0 hp hf
    rw [f_Pr_inherits_L2] at hf
    rw [pre_Pr_inherits_L2] at hp
    refine lv_iload_n hx hb d_Pr_inherits_2 rfl (lv_at hl 3 rfl) ?_
    refine lv_aload_n hx hb d_Pr_inherits_3 rfl (lv_at hl 0 rfl) ?_
    refine gf_Pr_inheritedCounts hC hw g0 wd_99 d_Pr_inherits_4 ?_
    refine lv_iload_n hx hb d_Pr_inherits_7 rfl (lv_at hl 1 rfl) ?_
    have o1 := hp.1
    have hp := hp.2
    refine cs_iald hC hw is_6 o1 d_Pr_inherits_8 ?_
    refine lv_icmp_ge (tgt := 34) hx hb d_Pr_inherits_9 (by decide) (fun c2 => ?_) (fun c2 => ?_)
    · have hp := hp.1 c2
      have hf := hf.trans (if_pos c2)
      refine lv_iconst (v := 0) hx hb d_Pr_inherits_34 (by decide) ?_
      exact cs_zret hC hw hr hlk (Or.inl rfl) (congrArg (fun z => (z, M)) hf) d_Pr_inherits_35
    · have hp := hp.2 c2
      have hf := hf.trans (if_neg c2)
      refine lv_aload_n hx hb d_Pr_inherits_12 rfl (lv_at hl 0 rfl) ?_
      refine gf_Pr_inherited hC hw g0 wd_98 d_Pr_inherits_13 ?_
      refine lv_iload_n hx hb d_Pr_inherits_16 rfl (lv_at hl 1 rfl) ?_
      refine lv_iconst (v := 2) hx hb d_Pr_inherits_17 (by decide) ?_
      refine lv_imul hx hb d_Pr_inherits_18 ?_
      refine lv_iload_n hx hb d_Pr_inherits_19 rfl (lv_at hl 3 rfl) ?_
      refine lv_iadd hx hb d_Pr_inherits_20 ?_
      have o3 := hp.1
      have hp := hp.2
      refine cs_iald hC hw is_5 o3 d_Pr_inherits_21 ?_
      refine lv_iload_n hx hb d_Pr_inherits_22 rfl (lv_at hl 2 rfl) ?_
      refine lv_icmp_ne (tgt := 28) hx hb d_Pr_inherits_23 (by decide) (fun c4 => ?_) (fun c4 => ?_)
      · have hp := hp.2 c4
        have hf := hf.trans (if_neg c4)
        obtain ⟨z5, ez5⟩ : ∃ y : Int32, y = y3 + 1 := ⟨_, rfl⟩
        have hp := cs_bdP ez5 hp
        have hf := cs_bdE ez5 hf
        refine lv_iinc (v := z5) (lv' := [(3, .int z5), (0, .ref (ad j)), (1, .int y1), (2, .int y2)]) hx hb d_Pr_inherits_28 hl (k := 3) rfl (by rw [ez5]; rfl) (by decide) rfl (fun ls hl => ?_)
        refine lv_goto (tgt := 2) hx hb d_Pr_inherits_31 (by decide) ?_
        exact ih M j y1 y2 z5 _ _ ls hw (lv_sub hl [1, 2, 3, 0] rfl) g0 hp hf
      · have hp := hp.1 c4
        have hf := hf.trans (if_pos c4)
        refine lv_iconst (v := 1) hx hb d_Pr_inherits_26 (by decide) ?_
        exact cs_zret hC hw hr hlk (Or.inr rfl) (congrArg (fun z => (z, M)) hf) d_Pr_inherits_27
set_option maxHeartbeats 4000000 in
set_option maxRecDepth 100000 in
theorem c_Pr_inherits (l : Launch) (D : va_G) (cA : Nat → ClassId) (ad : Nat → Nat) (M : cs_Mem) (j : Nat) (hj : cs_is 1 j) (x1 : Int32) (x2 : Int32) (hp : pre_Pr_inherits M j x1 x2) : cs_Ci l ⟨"ClassStarter$Program", "inherits", "(II)Z"⟩ prog_5_method_8_code 4 (some .boolean) ({ frames := 0, cells := 0, slots := 0, locals := 0 }) D cA ad M [.ref (ad j), .int x1, .int x2] ((f_Pr_inherits M j x1 x2, M)) := by
  refine cs_entry (by decide) (Nat.le_of_ble_eq_true rfl) (fun p e s m below meth c A ls hC hr hlk _ hw hl => ?_)
  have hx := hC.1
  have hb := hC.2.1
  have hl : lv_has ls 4 [(0, .ref (ad j)), (1, .int x1), (2, .int x2)] := hl
  generalize hF : f_Pr_inherits M j x1 x2 = F
  have hf := hF.symm
  unfold f_Pr_inherits at hf
  unfold pre_Pr_inherits at hp
  refine lv_iconst (v := 0) hx hb d_Pr_inherits_0 (by decide) ?_
  refine lv_istore_n (lv' := [(3, .int 0), (0, .ref (ad j)), (1, .int x1), (2, .int x2)]) hx hb d_Pr_inherits_1 rfl hl (by decide) rfl (fun ls hl => ?_)
  exact w_Pr_inherits_L2 hC hr hlk 10 M j x1 x2 0 _ _ ls hw (lv_sub hl [1, 2, 3, 0] rfl) hj hp hf
theorem d_Pr_addInterface_0 : decode prog_5_method_7_code 0 = .ok (.aload_n 0, 1) := by decide +kernel
theorem d_Pr_addInterface_1 : decode prog_5_method_7_code 1 = .ok (.iload_n 1, 1) := by decide +kernel
theorem d_Pr_addInterface_2 : decode prog_5_method_7_code 2 = .ok (.invokevirtual 41, 3) := by decide +kernel
theorem d_Pr_addInterface_5 : decode prog_5_method_7_code 5 = .ok (.ifCond .eq 39, 3) := by decide +kernel
theorem d_Pr_addInterface_8 : decode prog_5_method_7_code 8 = .ok (.aload_n 0, 1) := by decide +kernel
theorem d_Pr_addInterface_9 : decode prog_5_method_7_code 9 = .ok (.getfield 9, 3) := by decide +kernel
theorem d_Pr_addInterface_12 : decode prog_5_method_7_code 12 = .ok (.iload_n 1, 1) := by decide +kernel
theorem d_Pr_addInterface_13 : decode prog_5_method_7_code 13 = .ok (.baload, 1) := by decide +kernel
theorem d_Pr_addInterface_14 : decode prog_5_method_7_code 14 = .ok (.ifCond .ne 30, 3) := by decide +kernel
theorem d_Pr_addInterface_17 : decode prog_5_method_7_code 17 = .ok (.iload_n 2, 1) := by decide +kernel
theorem d_Pr_addInterface_18 : decode prog_5_method_7_code 18 = .ok (.ifCond .lt 26, 3) := by decide +kernel
theorem d_Pr_addInterface_21 : decode prog_5_method_7_code 21 = .ok (.iload_n 2, 1) := by decide +kernel
theorem d_Pr_addInterface_22 : decode prog_5_method_7_code 22 = .ok (.iload_n 1, 1) := by decide +kernel
theorem d_Pr_addInterface_23 : decode prog_5_method_7_code 23 = .ok (.if_icmp .ge 21, 3) := by decide +kernel
theorem d_Pr_addInterface_26 : decode prog_5_method_7_code 26 = .ok (.aload_n 0, 1) := by decide +kernel
theorem d_Pr_addInterface_27 : decode prog_5_method_7_code 27 = .ok (.getfield 9, 3) := by decide +kernel
theorem d_Pr_addInterface_30 : decode prog_5_method_7_code 30 = .ok (.iload_n 2, 1) := by decide +kernel
theorem d_Pr_addInterface_31 : decode prog_5_method_7_code 31 = .ok (.baload, 1) := by decide +kernel
theorem d_Pr_addInterface_32 : decode prog_5_method_7_code 32 = .ok (.ifCond .eq 12, 3) := by decide +kernel
theorem d_Pr_addInterface_35 : decode prog_5_method_7_code 35 = .ok (.aload_n 0, 1) := by decide +kernel
theorem d_Pr_addInterface_36 : decode prog_5_method_7_code 36 = .ok (.iload_n 1, 1) := by decide +kernel
theorem d_Pr_addInterface_37 : decode prog_5_method_7_code 37 = .ok (.iload_n 2, 1) := by decide +kernel
theorem d_Pr_addInterface_38 : decode prog_5_method_7_code 38 = .ok (.invokevirtual 49, 3) := by decide +kernel
theorem d_Pr_addInterface_41 : decode prog_5_method_7_code 41 = .ok (.ifCond .eq 5, 3) := by decide +kernel
theorem d_Pr_addInterface_44 : decode prog_5_method_7_code 44 = .ok (.iconst (-1), 1) := by decide +kernel
theorem d_Pr_addInterface_45 : decode prog_5_method_7_code 45 = .ok (.ireturn, 1) := by decide +kernel
theorem d_Pr_addInterface_46 : decode prog_5_method_7_code 46 = .ok (.aload_n 0, 1) := by decide +kernel
theorem d_Pr_addInterface_47 : decode prog_5_method_7_code 47 = .ok (.getfield 25, 3) := by decide +kernel
theorem d_Pr_addInterface_50 : decode prog_5_method_7_code 50 = .ok (.iload_n 1, 1) := by decide +kernel
theorem d_Pr_addInterface_51 : decode prog_5_method_7_code 51 = .ok (.iaload, 1) := by decide +kernel
theorem d_Pr_addInterface_52 : decode prog_5_method_7_code 52 = .ok (.iconst 2, 1) := by decide +kernel
theorem d_Pr_addInterface_53 : decode prog_5_method_7_code 53 = .ok (.if_icmp .lt 6, 3) := by decide +kernel
theorem d_Pr_addInterface_56 : decode prog_5_method_7_code 56 = .ok (.bipush (-2), 2) := by decide +kernel
theorem d_Pr_addInterface_58 : decode prog_5_method_7_code 58 = .ok (.ireturn, 1) := by decide +kernel
theorem d_Pr_addInterface_59 : decode prog_5_method_7_code 59 = .ok (.aload_n 0, 1) := by decide +kernel
theorem d_Pr_addInterface_60 : decode prog_5_method_7_code 60 = .ok (.getfield 22, 3) := by decide +kernel
theorem d_Pr_addInterface_63 : decode prog_5_method_7_code 63 = .ok (.iload_n 1, 1) := by decide +kernel
theorem d_Pr_addInterface_64 : decode prog_5_method_7_code 64 = .ok (.iconst 2, 1) := by decide +kernel
theorem d_Pr_addInterface_65 : decode prog_5_method_7_code 65 = .ok (.imul, 1) := by decide +kernel
theorem d_Pr_addInterface_66 : decode prog_5_method_7_code 66 = .ok (.aload_n 0, 1) := by decide +kernel
theorem d_Pr_addInterface_67 : decode prog_5_method_7_code 67 = .ok (.getfield 25, 3) := by decide +kernel
theorem d_Pr_addInterface_70 : decode prog_5_method_7_code 70 = .ok (.iload_n 1, 1) := by decide +kernel
theorem d_Pr_addInterface_71 : decode prog_5_method_7_code 71 = .ok (.iaload, 1) := by decide +kernel
theorem d_Pr_addInterface_72 : decode prog_5_method_7_code 72 = .ok (.iadd, 1) := by decide +kernel
theorem d_Pr_addInterface_73 : decode prog_5_method_7_code 73 = .ok (.iload_n 2, 1) := by decide +kernel
theorem d_Pr_addInterface_74 : decode prog_5_method_7_code 74 = .ok (.iastore, 1) := by decide +kernel
theorem d_Pr_addInterface_75 : decode prog_5_method_7_code 75 = .ok (.aload_n 0, 1) := by decide +kernel
theorem d_Pr_addInterface_76 : decode prog_5_method_7_code 76 = .ok (.getfield 25, 3) := by decide +kernel
theorem d_Pr_addInterface_79 : decode prog_5_method_7_code 79 = .ok (.iload_n 1, 1) := by decide +kernel
theorem d_Pr_addInterface_80 : decode prog_5_method_7_code 80 = .ok (.dup2, 1) := by decide +kernel
theorem d_Pr_addInterface_81 : decode prog_5_method_7_code 81 = .ok (.iaload, 1) := by decide +kernel
theorem d_Pr_addInterface_82 : decode prog_5_method_7_code 82 = .ok (.iconst 1, 1) := by decide +kernel
theorem d_Pr_addInterface_83 : decode prog_5_method_7_code 83 = .ok (.iadd, 1) := by decide +kernel
theorem d_Pr_addInterface_84 : decode prog_5_method_7_code 84 = .ok (.iastore, 1) := by decide +kernel
theorem d_Pr_addInterface_85 : decode prog_5_method_7_code 85 = .ok (.iload_n 3, 1) := by decide +kernel
theorem d_Pr_addInterface_86 : decode prog_5_method_7_code 86 = .ok (.ifCond .eq 13, 3) := by decide +kernel
theorem d_Pr_addInterface_89 : decode prog_5_method_7_code 89 = .ok (.aload_n 0, 1) := by decide +kernel
theorem d_Pr_addInterface_90 : decode prog_5_method_7_code 90 = .ok (.getfield 30, 3) := by decide +kernel
theorem d_Pr_addInterface_93 : decode prog_5_method_7_code 93 = .ok (.iload_n 1, 1) := by decide +kernel
theorem d_Pr_addInterface_94 : decode prog_5_method_7_code 94 = .ok (.aaload, 1) := by decide +kernel
theorem d_Pr_addInterface_95 : decode prog_5_method_7_code 95 = .ok (.iload_n 2, 1) := by decide +kernel
theorem d_Pr_addInterface_96 : decode prog_5_method_7_code 96 = .ok (.invokevirtual 45, 3) := by decide +kernel
theorem d_Pr_addInterface_99 : decode prog_5_method_7_code 99 = .ok (.aload_n 0, 1) := by decide +kernel
theorem d_Pr_addInterface_100 : decode prog_5_method_7_code 100 = .ok (.getfield 25, 3) := by decide +kernel
theorem d_Pr_addInterface_103 : decode prog_5_method_7_code 103 = .ok (.iload_n 1, 1) := by decide +kernel
theorem d_Pr_addInterface_104 : decode prog_5_method_7_code 104 = .ok (.iaload, 1) := by decide +kernel
theorem d_Pr_addInterface_105 : decode prog_5_method_7_code 105 = .ok (.ireturn, 1) := by decide +kernel
def f_Pr_addInterface_J44 (M : cs_Mem)  : Int32 × cs_Mem :=
  ((-1), M)
def f_Pr_addInterface (M : cs_Mem) (j : Nat) (x1 : Int32) (x2 : Int32) (x3 : Int32) : Int32 × cs_Mem :=
  cs_bd (f_Pr_isDeclared M j x1) fun (r1 : Int32) =>
  if r1 = 0 then
    f_Pr_addInterface_J44 M 
  else
    if (M 2 x1.toNatClampNeg) = 0 then
      if x2 < 0 then
        f_Pr_addInterface_J44 M 
      else
        if x1 ≤ x2 then
          f_Pr_addInterface_J44 M 
        else
          if (M 2 x2.toNatClampNeg) = 0 then
            f_Pr_addInterface_J44 M 
          else
            cs_bd (f_Pr_inherits M j x1 x2) fun (r10 : Int32) =>
            if r10 = 0 then
              if (M 6 x1.toNatClampNeg) < 2 then
                cs_bd (cs_up M 5 (upd (M 5) ((x1 * 2) + (M 6 x1.toNatClampNeg)).toNatClampNeg x2)) fun (N16 : cs_Mem) =>
                cs_bd (cs_up N16 6 (upd (N16 6) x1.toNatClampNeg ((N16 6 x1.toNatClampNeg) + 1))) fun (N19 : cs_Mem) =>
                if x3 = 0 then
                  (N19 6 x1.toNatClampNeg, N19)
                else
                  cs_bd (f_Sc_addUseAhead N19 (8 + 4 * x1.toNatClampNeg) x2) fun (u24 : cs_Mem) =>
                  (u24 6 x1.toNatClampNeg, u24)
              else
                ((-2), M)
            else
              f_Pr_addInterface_J44 M 
    else
      f_Pr_addInterface_J44 M 
def pre_Pr_addInterface (M : cs_Mem) (j : Nat) (x1 : Int32) (x2 : Int32) (x3 : Int32) : Prop :=
  cs_bd (f_Pr_isDeclared M j x1) fun (r1 : Int32) =>
  (r1 = 0 →
    True
  ) ∧ (¬ (r1 = 0) →
    (vp_in x1 (cs_ln M 2)) ∧
    ((M 2 x1.toNatClampNeg) = 0 →
      (x2 < 0 →
        True
      ) ∧ (¬ (x2 < 0) →
        (x1 ≤ x2 →
          True
        ) ∧ (¬ (x1 ≤ x2) →
          (vp_in x2 (cs_ln M 2)) ∧
          ((M 2 x2.toNatClampNeg) = 0 →
            True
          ) ∧ (¬ ((M 2 x2.toNatClampNeg) = 0) →
            (pre_Pr_inherits M j x1 x2) ∧
            cs_bd (f_Pr_inherits M j x1 x2) fun (r10 : Int32) =>
            (r10 = 0 →
              (vp_in x1 (cs_ln M 6)) ∧
              ((M 6 x1.toNatClampNeg) < 2 →
                (vp_in x1 (cs_ln M 6)) ∧
                (vp_in ((x1 * 2) + (M 6 x1.toNatClampNeg)) (cs_ln M 5)) ∧
                cs_bd (cs_up M 5 (upd (M 5) ((x1 * 2) + (M 6 x1.toNatClampNeg)).toNatClampNeg x2)) fun (N16 : cs_Mem) =>
                (vp_in x1 (cs_ln N16 6)) ∧
                (vp_in x1 (cs_ln N16 6)) ∧
                cs_bd (cs_up N16 6 (upd (N16 6) x1.toNatClampNeg ((N16 6 x1.toNatClampNeg) + 1))) fun (N19 : cs_Mem) =>
                (x3 = 0 →
                  (vp_in x1 (cs_ln N19 6)) ∧
                  True
                ) ∧ (¬ (x3 = 0) →
                  (vp_in x1 11) ∧
                  (pre_Sc_addUseAhead N19 (8 + 4 * x1.toNatClampNeg) x2) ∧
                  cs_bd (f_Sc_addUseAhead N19 (8 + 4 * x1.toNatClampNeg) x2) fun (u24 : cs_Mem) =>
                  (vp_in x1 (cs_ln u24 6)) ∧
                  True
                )
              ) ∧ (¬ ((M 6 x1.toNatClampNeg) < 2) →
                True
              )
            ) ∧ (¬ (r10 = 0) →
              True
            )
          )
        )
      )
    ) ∧ (¬ ((M 2 x1.toNatClampNeg) = 0) →
      True
    )
  )
set_option maxHeartbeats 4000000 in
set_option maxRecDepth 100000 in
theorem w_Pr_addInterface_J44 {p : Program} {l : Launch} {e : Env} {s : State} {m : MethodId} {args : Array Value} {below : List Frame} {meth : Method} {c : Code} {D : va_G} {cA : Nat → ClassId} {A : Nat → Prop} {ad : Nat → Nat} {F : Int32 × cs_Mem} (hC : cs_Ctx p s m args c prog_5_method_7_code 4 "ClassStarter$Program" D cA A) (hr : meth.sig.returnType = (some .int)) (hlk : meth.locks = false) : ∀ (M : cs_Mem) (H : Heap) (locs : List Loc) (ls : Array Slot), cs_Wd D cA ad M A s H locs → lv_has ls 4 [] → F = f_Pr_addInterface_J44 M  → W p l e ({ frames := 2, cells := 0, slots := 0, locals := 62 }) s m args below meth c H locs 0 0 (MQ below (cs_Qi D cA ad F A) args s 0 0 A) (F0 m 44 ls []) := by
  have hx := hC.1
  have hb := hC.2.1
  intro M  H locs ls hw hl  hf
  unfold f_Pr_addInterface_J44 at hf
  refine lv_iconst (v := (-1)) hx hb d_Pr_addInterface_44 (by decide) ?_
  exact cs_iret hC hw hr hlk hf d_Pr_addInterface_45
set_option maxHeartbeats 4000000 in
set_option maxRecDepth 100000 in
theorem c_Pr_addInterface (l : Launch) (D : va_G) (cA : Nat → ClassId) (ad : Nat → Nat) (M : cs_Mem) (j : Nat) (hj : cs_is 1 j) (x1 : Int32) (x2 : Int32) (x3 : Int32) (hp : pre_Pr_addInterface M j x1 x2 x3) : cs_Ci l ⟨"ClassStarter$Program", "addInterface", "(IIZ)I"⟩ prog_5_method_7_code 4 (some .int) ({ frames := 2, cells := 0, slots := 0, locals := 62 }) D cA ad M [.ref (ad j), .int x1, .int x2, .int x3] (f_Pr_addInterface M j x1 x2 x3) := by
  refine cs_entry (by decide) (Nat.le_of_ble_eq_true rfl) (fun p e s m below meth c A ls hC hr hlk _ hw hl => ?_)
  have hx := hC.1
  have hb := hC.2.1
  have hl : lv_has ls 4 [(0, .ref (ad j)), (1, .int x1), (2, .int x2), (3, .int x3)] := hl
  generalize hF : f_Pr_addInterface M j x1 x2 x3 = F
  have hf := hF.symm
  unfold f_Pr_addInterface at hf
  unfold pre_Pr_addInterface at hp
  refine lv_aload_n hx hb d_Pr_addInterface_0 rfl (lv_at hl 0 rfl) ?_
  refine lv_iload_n hx hb d_Pr_addInterface_1 rfl (lv_at hl 1 rfl) ?_
  refine cs_ret_p hC hw (cs_runV (As := [.int x1]) (rest := []) hC hw hj.2 (ci := 1) rfl rfl (cs_sg_is hj) (c_Pr_isDeclared l D cA ad M j hj x1 _) rfl rfl cw_Pr_41 ⟨Nat.le_of_ble_eq_true rfl, Nat.le_of_ble_eq_true rfl⟩ hl.1 rfl rfl (Nat.le_of_ble_eq_true rfl) d_Pr_addInterface_2 ⟨Nat.zero_le _, Nat.zero_le _⟩) (fun r1 H locs er1 hw => ?_)
  have hp := cs_bdP er1 hp
  have hf := cs_bdE er1 hf
  refine lv_if_eq (tgt := 44) hx hb d_Pr_addInterface_5 (by decide) (fun c2 => ?_) (fun c2 => ?_)
  · have hp := hp.1 c2
    have hf := hf.trans (if_pos c2)
    exact w_Pr_addInterface_J44 hC hr hlk M  _ _ ls hw (lv_sub hl [] rfl) hf
  · have hp := hp.2 c2
    have hf := hf.trans (if_neg c2)
    refine lv_aload_n hx hb d_Pr_addInterface_8 rfl (lv_at hl 0 rfl) ?_
    refine gf_Pr_interfaces hC hw hj wd_95 d_Pr_addInterface_9 ?_
    refine lv_iload_n hx hb d_Pr_addInterface_12 rfl (lv_at hl 1 rfl) ?_
    have o3 := hp.1
    have hp := hp.2
    refine cs_zald hC hw is_2 o3 d_Pr_addInterface_13 ?_
    refine lv_if_ne (tgt := 44) hx hb d_Pr_addInterface_14 (by decide) (fun c4 => ?_) (fun c4 => ?_)
    · have hp := hp.2 c4
      have hf := hf.trans (if_neg c4)
      exact w_Pr_addInterface_J44 hC hr hlk M  _ _ ls hw (lv_sub hl [] rfl) hf
    · have hp := hp.1 c4
      have hf := hf.trans (if_pos c4)
      refine lv_iload_n hx hb d_Pr_addInterface_17 rfl (lv_at hl 2 rfl) ?_
      refine lv_if_lt (tgt := 44) hx hb d_Pr_addInterface_18 (by decide) (fun c5 => ?_) (fun c5 => ?_)
      · have hp := hp.1 c5
        have hf := hf.trans (if_pos c5)
        exact w_Pr_addInterface_J44 hC hr hlk M  _ _ ls hw (lv_sub hl [] rfl) hf
      · have hp := hp.2 c5
        have hf := hf.trans (if_neg c5)
        refine lv_iload_n hx hb d_Pr_addInterface_21 rfl (lv_at hl 2 rfl) ?_
        refine lv_iload_n hx hb d_Pr_addInterface_22 rfl (lv_at hl 1 rfl) ?_
        refine lv_icmp_ge (tgt := 44) hx hb d_Pr_addInterface_23 (by decide) (fun c6 => ?_) (fun c6 => ?_)
        · have hp := hp.1 c6
          have hf := hf.trans (if_pos c6)
          exact w_Pr_addInterface_J44 hC hr hlk M  _ _ ls hw (lv_sub hl [] rfl) hf
        · have hp := hp.2 c6
          have hf := hf.trans (if_neg c6)
          refine lv_aload_n hx hb d_Pr_addInterface_26 rfl (lv_at hl 0 rfl) ?_
          refine gf_Pr_interfaces hC hw hj wd_95 d_Pr_addInterface_27 ?_
          refine lv_iload_n hx hb d_Pr_addInterface_30 rfl (lv_at hl 2 rfl) ?_
          have o7 := hp.1
          have hp := hp.2
          refine cs_zald hC hw is_2 o7 d_Pr_addInterface_31 ?_
          refine lv_if_eq (tgt := 44) hx hb d_Pr_addInterface_32 (by decide) (fun c8 => ?_) (fun c8 => ?_)
          · have hp := hp.1 c8
            have hf := hf.trans (if_pos c8)
            exact w_Pr_addInterface_J44 hC hr hlk M  _ _ ls hw (lv_sub hl [] rfl) hf
          · have hp := hp.2 c8
            have hf := hf.trans (if_neg c8)
            refine lv_aload_n hx hb d_Pr_addInterface_35 rfl (lv_at hl 0 rfl) ?_
            refine lv_iload_n hx hb d_Pr_addInterface_36 rfl (lv_at hl 1 rfl) ?_
            refine lv_iload_n hx hb d_Pr_addInterface_37 rfl (lv_at hl 2 rfl) ?_
            have o9 := hp.1
            have hp := hp.2
            refine cs_ret_p hC hw (cs_runV (As := [.int x1, .int x2]) (rest := []) hC hw hj.2 (ci := 1) rfl rfl (cs_sg_is hj) (c_Pr_inherits l D cA ad M j hj x1 x2 o9 _) rfl rfl cw_Pr_49 ⟨Nat.le_of_ble_eq_true rfl, Nat.le_of_ble_eq_true rfl⟩ hl.1 rfl rfl (Nat.le_of_ble_eq_true rfl) d_Pr_addInterface_38 ⟨Nat.zero_le _, Nat.zero_le _⟩) (fun r10 H locs er10 hw => ?_)
            have hp := cs_bdP er10 hp
            have hf := cs_bdE er10 hf
            refine lv_if_eq (tgt := 46) hx hb d_Pr_addInterface_41 (by decide) (fun c11 => ?_) (fun c11 => ?_)
            · have hp := hp.1 c11
              have hf := hf.trans (if_pos c11)
              refine lv_aload_n hx hb d_Pr_addInterface_46 rfl (lv_at hl 0 rfl) ?_
              refine gf_Pr_inheritedCounts hC hw hj wd_99 d_Pr_addInterface_47 ?_
              refine lv_iload_n hx hb d_Pr_addInterface_50 rfl (lv_at hl 1 rfl) ?_
              have o12 := hp.1
              have hp := hp.2
              refine cs_iald hC hw is_6 o12 d_Pr_addInterface_51 ?_
              refine lv_iconst (v := 2) hx hb d_Pr_addInterface_52 (by decide) ?_
              refine lv_icmp_lt (tgt := 59) hx hb d_Pr_addInterface_53 (by decide) (fun c13 => ?_) (fun c13 => ?_)
              · have hp := hp.1 c13
                have hf := hf.trans (if_pos c13)
                refine lv_aload_n hx hb d_Pr_addInterface_59 rfl (lv_at hl 0 rfl) ?_
                refine gf_Pr_inherited hC hw hj wd_98 d_Pr_addInterface_60 ?_
                refine lv_iload_n hx hb d_Pr_addInterface_63 rfl (lv_at hl 1 rfl) ?_
                refine lv_iconst (v := 2) hx hb d_Pr_addInterface_64 (by decide) ?_
                refine lv_imul hx hb d_Pr_addInterface_65 ?_
                refine lv_aload_n hx hb d_Pr_addInterface_66 rfl (lv_at hl 0 rfl) ?_
                refine gf_Pr_inheritedCounts hC hw hj wd_99 d_Pr_addInterface_67 ?_
                refine lv_iload_n hx hb d_Pr_addInterface_70 rfl (lv_at hl 1 rfl) ?_
                have o14 := hp.1
                have hp := hp.2
                refine cs_iald hC hw is_6 o14 d_Pr_addInterface_71 ?_
                refine lv_iadd hx hb d_Pr_addInterface_72 ?_
                refine lv_iload_n hx hb d_Pr_addInterface_73 rfl (lv_at hl 2 rfl) ?_
                have o15 := hp.1
                have hp := hp.2
                refine cs_iast hC hw is_5 o15 d_Pr_addInterface_74 (fun N16 H locs eN16 hw => ?_)
                have hp := cs_bdP eN16 hp
                have hf := cs_bdE eN16 hf
                refine lv_aload_n hx hb d_Pr_addInterface_75 rfl (lv_at hl 0 rfl) ?_
                refine gf_Pr_inheritedCounts hC hw hj wd_99 d_Pr_addInterface_76 ?_
                refine lv_iload_n hx hb d_Pr_addInterface_79 rfl (lv_at hl 1 rfl) ?_
                refine lv_dup2_11 hx hb d_Pr_addInterface_80 rfl rfl ?_
                have o17 := hp.1
                have hp := hp.2
                refine cs_iald hC hw is_6 o17 d_Pr_addInterface_81 ?_
                refine lv_iconst (v := 1) hx hb d_Pr_addInterface_82 (by decide) ?_
                refine lv_iadd hx hb d_Pr_addInterface_83 ?_
                have o18 := hp.1
                have hp := hp.2
                refine cs_iast hC hw is_6 o18 d_Pr_addInterface_84 (fun N19 H locs eN19 hw => ?_)
                have hp := cs_bdP eN19 hp
                have hf := cs_bdE eN19 hf
                refine lv_iload_n hx hb d_Pr_addInterface_85 rfl (lv_at hl 3 rfl) ?_
                refine lv_if_eq (tgt := 99) hx hb d_Pr_addInterface_86 (by decide) (fun c20 => ?_) (fun c20 => ?_)
                · have hp := hp.1 c20
                  have hf := hf.trans (if_pos c20)
                  refine lv_aload_n hx hb d_Pr_addInterface_99 rfl (lv_at hl 0 rfl) ?_
                  refine gf_Pr_inheritedCounts hC hw hj wd_99 d_Pr_addInterface_100 ?_
                  refine lv_iload_n hx hb d_Pr_addInterface_103 rfl (lv_at hl 1 rfl) ?_
                  have o21 := hp.1
                  have hp := hp.2
                  refine cs_iald hC hw is_6 o21 d_Pr_addInterface_104 ?_
                  exact cs_iret hC hw hr hlk hf d_Pr_addInterface_105
                · have hp := hp.2 c20
                  have hf := hf.trans (if_neg c20)
                  refine lv_aload_n hx hb d_Pr_addInterface_89 rfl (lv_at hl 0 rfl) ?_
                  refine gf_Pr_scripts hC hw hj wd_100 d_Pr_addInterface_90 ?_
                  refine lv_iload_n hx hb d_Pr_addInterface_93 rfl (lv_at hl 1 rfl) ?_
                  have o22 := hp.1
                  have hp := hp.2
                  refine cs_aald22 hC hw is_7 o22 d_Pr_addInterface_94 ?_
                  refine lv_iload_n hx hb d_Pr_addInterface_95 rfl (lv_at hl 2 rfl) ?_
                  have o23 := hp.1
                  have hp := hp.2
                  refine cs_ret_v hC hw (cs_runV (As := [.int x2]) (rest := []) hC hw (is_scr o22).2 (ci := 2) rfl rfl (cs_sg_is (is_scr o22)) (c_Sc_addUseAhead l D cA ad N19 (8 + 4 * x1.toNatClampNeg) (is_scr o22) x2 o23 _) rfl rfl cw_Pr_45 ⟨Nat.le_of_ble_eq_true rfl, Nat.le_of_ble_eq_true rfl⟩ hl.1 rfl rfl (Nat.le_of_ble_eq_true rfl) d_Pr_addInterface_96 ⟨Nat.zero_le _, Nat.zero_le _⟩) (fun u24 H locs eu24 hw => ?_)
                  have hp := cs_bdP eu24 hp
                  have hf := cs_bdE eu24 hf
                  refine lv_aload_n hx hb d_Pr_addInterface_99 rfl (lv_at hl 0 rfl) ?_
                  refine gf_Pr_inheritedCounts hC hw hj wd_99 d_Pr_addInterface_100 ?_
                  refine lv_iload_n hx hb d_Pr_addInterface_103 rfl (lv_at hl 1 rfl) ?_
                  have o25 := hp.1
                  have hp := hp.2
                  refine cs_iald hC hw is_6 o25 d_Pr_addInterface_104 ?_
                  exact cs_iret hC hw hr hlk hf d_Pr_addInterface_105
              · have hp := hp.2 c13
                have hf := hf.trans (if_neg c13)
                refine lv_bipush (v := (-2)) hx hb d_Pr_addInterface_56 (by decide) ?_
                exact cs_iret hC hw hr hlk hf d_Pr_addInterface_58
            · have hp := hp.2 c11
              have hf := hf.trans (if_neg c11)
              exact w_Pr_addInterface_J44 hC hr hlk M  _ _ ls hw (lv_sub hl [] rfl) hf
theorem d_Pr_isBelow_0 : decode prog_5_method_12_code 0 = .ok (.iload_n 0, 1) := by decide +kernel
theorem d_Pr_isBelow_1 : decode prog_5_method_12_code 1 = .ok (.ifCond .lt 12, 3) := by decide +kernel
theorem d_Pr_isBelow_4 : decode prog_5_method_12_code 4 = .ok (.iload_n 0, 1) := by decide +kernel
theorem d_Pr_isBelow_5 : decode prog_5_method_12_code 5 = .ok (.iload_n 1, 1) := by decide +kernel
theorem d_Pr_isBelow_6 : decode prog_5_method_12_code 6 = .ok (.if_icmp .ge 7, 3) := by decide +kernel
theorem d_Pr_isBelow_9 : decode prog_5_method_12_code 9 = .ok (.iconst 1, 1) := by decide +kernel
theorem d_Pr_isBelow_10 : decode prog_5_method_12_code 10 = .ok (.goto 4, 3) := by decide +kernel
theorem d_Pr_isBelow_13 : decode prog_5_method_12_code 13 = .ok (.iconst 0, 1) := by decide +kernel
theorem d_Pr_isBelow_14 : decode prog_5_method_12_code 14 = .ok (.ireturn, 1) := by decide +kernel
def f_Pr_isBelow (M : cs_Mem) (x0 : Int32) (x1 : Int32) : Int32 :=
  if x0 < 0 then
    0
  else
    if x1 ≤ x0 then
      0
    else
      1
set_option maxHeartbeats 4000000 in
set_option maxRecDepth 100000 in
theorem c_Pr_isBelow (l : Launch) (D : va_G) (cA : Nat → ClassId) (ad : Nat → Nat) (M : cs_Mem) (x0 : Int32) (x1 : Int32) : cs_Ci l ⟨"ClassStarter$Program", "isBelow", "(II)Z"⟩ prog_5_method_12_code 2 (some .boolean) ({ frames := 0, cells := 0, slots := 0, locals := 0 }) D cA ad M [.int x0, .int x1] ((f_Pr_isBelow M x0 x1, M)) := by
  refine cs_entry (by decide) (Nat.le_of_ble_eq_true rfl) (fun p e s m below meth c A ls hC hr hlk _ hw hl => ?_)
  have hx := hC.1
  have hb := hC.2.1
  have hl : lv_has ls 2 [(0, .int x0), (1, .int x1)] := hl
  generalize hF : f_Pr_isBelow M x0 x1 = F
  have hf := hF.symm
  unfold f_Pr_isBelow at hf
  refine lv_iload_n hx hb d_Pr_isBelow_0 rfl (lv_at hl 0 rfl) ?_
  refine lv_if_lt (tgt := 13) hx hb d_Pr_isBelow_1 (by decide) (fun c1 => ?_) (fun c1 => ?_)
  · have hf := hf.trans (if_pos c1)
    refine lv_iconst (v := 0) hx hb d_Pr_isBelow_13 (by decide) ?_
    exact cs_zret hC hw hr hlk (Or.inl rfl) (congrArg (fun z => (z, M)) hf) d_Pr_isBelow_14
  · have hf := hf.trans (if_neg c1)
    refine lv_iload_n hx hb d_Pr_isBelow_4 rfl (lv_at hl 0 rfl) ?_
    refine lv_iload_n hx hb d_Pr_isBelow_5 rfl (lv_at hl 1 rfl) ?_
    refine lv_icmp_ge (tgt := 13) hx hb d_Pr_isBelow_6 (by decide) (fun c2 => ?_) (fun c2 => ?_)
    · have hf := hf.trans (if_pos c2)
      refine lv_iconst (v := 0) hx hb d_Pr_isBelow_13 (by decide) ?_
      exact cs_zret hC hw hr hlk (Or.inl rfl) (congrArg (fun z => (z, M)) hf) d_Pr_isBelow_14
    · have hf := hf.trans (if_neg c2)
      refine lv_iconst (v := 1) hx hb d_Pr_isBelow_9 (by decide) ?_
      refine lv_goto (tgt := 14) hx hb d_Pr_isBelow_10 (by decide) ?_
      exact cs_zret hC hw hr hlk (Or.inr rfl) (congrArg (fun z => (z, M)) hf) d_Pr_isBelow_14
theorem d_Pr_isAction_0 : decode prog_5_method_11_code 0 = .ok (.iload_n 0, 1) := by decide +kernel
theorem d_Pr_isAction_1 : decode prog_5_method_11_code 1 = .ok (.tableswitch 82 0 6 #[43, 80, 50, 73, 73, 80, 80], 43) := by decide +kernel
theorem d_Pr_isAction_44 : decode prog_5_method_11_code 44 = .ok (.iload_n 1, 1) := by decide +kernel
theorem d_Pr_isAction_45 : decode prog_5_method_11_code 45 = .ok (.bipush 8, 2) := by decide +kernel
theorem d_Pr_isAction_47 : decode prog_5_method_11_code 47 = .ok (.invokestatic 64, 3) := by decide +kernel
theorem d_Pr_isAction_50 : decode prog_5_method_11_code 50 = .ok (.ireturn, 1) := by decide +kernel
theorem d_Pr_isAction_51 : decode prog_5_method_11_code 51 = .ok (.iload_n 1, 1) := by decide +kernel
theorem d_Pr_isAction_52 : decode prog_5_method_11_code 52 = .ok (.iconst 2, 1) := by decide +kernel
theorem d_Pr_isAction_53 : decode prog_5_method_11_code 53 = .ok (.invokestatic 64, 3) := by decide +kernel
theorem d_Pr_isAction_56 : decode prog_5_method_11_code 56 = .ok (.ifCond .eq 16, 3) := by decide +kernel
theorem d_Pr_isAction_59 : decode prog_5_method_11_code 59 = .ok (.iload_n 2, 1) := by decide +kernel
theorem d_Pr_isAction_60 : decode prog_5_method_11_code 60 = .ok (.bipush 8, 2) := by decide +kernel
theorem d_Pr_isAction_62 : decode prog_5_method_11_code 62 = .ok (.invokestatic 64, 3) := by decide +kernel
theorem d_Pr_isAction_65 : decode prog_5_method_11_code 65 = .ok (.ifCond .eq 7, 3) := by decide +kernel
theorem d_Pr_isAction_68 : decode prog_5_method_11_code 68 = .ok (.iconst 1, 1) := by decide +kernel
theorem d_Pr_isAction_69 : decode prog_5_method_11_code 69 = .ok (.goto 4, 3) := by decide +kernel
theorem d_Pr_isAction_72 : decode prog_5_method_11_code 72 = .ok (.iconst 0, 1) := by decide +kernel
theorem d_Pr_isAction_73 : decode prog_5_method_11_code 73 = .ok (.ireturn, 1) := by decide +kernel
theorem d_Pr_isAction_74 : decode prog_5_method_11_code 74 = .ok (.iload_n 1, 1) := by decide +kernel
theorem d_Pr_isAction_75 : decode prog_5_method_11_code 75 = .ok (.bipush 10, 2) := by decide +kernel
theorem d_Pr_isAction_77 : decode prog_5_method_11_code 77 = .ok (.invokestatic 64, 3) := by decide +kernel
theorem d_Pr_isAction_80 : decode prog_5_method_11_code 80 = .ok (.ireturn, 1) := by decide +kernel
theorem d_Pr_isAction_81 : decode prog_5_method_11_code 81 = .ok (.iconst 1, 1) := by decide +kernel
theorem d_Pr_isAction_82 : decode prog_5_method_11_code 82 = .ok (.ireturn, 1) := by decide +kernel
theorem d_Pr_isAction_83 : decode prog_5_method_11_code 83 = .ok (.iconst 0, 1) := by decide +kernel
theorem d_Pr_isAction_84 : decode prog_5_method_11_code 84 = .ok (.ireturn, 1) := by decide +kernel
def f_Pr_isAction (M : cs_Mem) (x0 : Int32) (x1 : Int32) (x2 : Int32) : Int32 :=
  if x0 = 0 then
    cs_bd (f_Pr_isBelow M x1 8) fun (r2 : Int32) =>
    r2
  else
    if x0 = 1 then
      1
    else
      if x0 = 2 then
        cs_bd (f_Pr_isBelow M x1 2) fun (r6 : Int32) =>
        if r6 = 0 then
          0
        else
          cs_bd (f_Pr_isBelow M x2 8) fun (r8 : Int32) =>
          if r8 = 0 then
            0
          else
            1
      else
        if x0 = 3 then
          cs_bd (f_Pr_isBelow M x1 10) fun (r11 : Int32) =>
          r11
        else
          if x0 = 4 then
            cs_bd (f_Pr_isBelow M x1 10) fun (r14 : Int32) =>
            r14
          else
            if x0 = 5 then
              1
            else
              if x0 = 6 then
                1
              else
                0
def pre_Pr_isAction (M : cs_Mem) (x0 : Int32) (x1 : Int32) (x2 : Int32) : Prop :=
  (x0 = 0 →
    cs_bd (f_Pr_isBelow M x1 8) fun (r2 : Int32) =>
    (r2 = 0 ∨ r2 = 1) ∧
    True
  ) ∧ (¬ (x0 = 0) →
    (x0 = 1 →
      True
    ) ∧ (¬ (x0 = 1) →
      (x0 = 2 →
        True
      ) ∧ (¬ (x0 = 2) →
        (x0 = 3 →
          cs_bd (f_Pr_isBelow M x1 10) fun (r11 : Int32) =>
          (r11 = 0 ∨ r11 = 1) ∧
          True
        ) ∧ (¬ (x0 = 3) →
          (x0 = 4 →
            cs_bd (f_Pr_isBelow M x1 10) fun (r14 : Int32) =>
            (r14 = 0 ∨ r14 = 1) ∧
            True
          ) ∧ (¬ (x0 = 4) →
            True
          )
        )
      )
    )
  )
set_option maxHeartbeats 4000000 in
set_option maxRecDepth 100000 in
theorem c_Pr_isAction (l : Launch) (D : va_G) (cA : Nat → ClassId) (ad : Nat → Nat) (M : cs_Mem) (x0 : Int32) (x1 : Int32) (x2 : Int32) (hp : pre_Pr_isAction M x0 x1 x2) : cs_Ci l ⟨"ClassStarter$Program", "isAction", "(III)Z"⟩ prog_5_method_11_code 3 (some .boolean) ({ frames := 1, cells := 0, slots := 0, locals := 21 }) D cA ad M [.int x0, .int x1, .int x2] ((f_Pr_isAction M x0 x1 x2, M)) := by
  refine cs_entry (by decide) (Nat.le_of_ble_eq_true rfl) (fun p e s m below meth c A ls hC hr hlk _ hw hl => ?_)
  have hx := hC.1
  have hb := hC.2.1
  have hl : lv_has ls 3 [(0, .int x0), (1, .int x1), (2, .int x2)] := hl
  generalize hF : f_Pr_isAction M x0 x1 x2 = F
  have hf := hF.symm
  unfold f_Pr_isAction at hf
  unfold pre_Pr_isAction at hp
  refine lv_iload_n hx hb d_Pr_isAction_0 rfl (lv_at hl 0 rfl) ?_
  rcases Decidable.em (x0 = 0) with c1 | c1
  · have hp := hp.1 c1
    have hf := hf.trans (if_pos c1)
    refine lv_tableIn (off := 43) (tgt := 44) hx hb d_Pr_isAction_1 (by rw [c1]; decide) (by rw [c1]; decide) (by rw [c1] <;> rfl) (by decide) ?_
    refine lv_iload_n hx hb d_Pr_isAction_44 rfl (lv_at hl 1 rfl) ?_
    refine lv_bipush (v := 8) hx hb d_Pr_isAction_45 (by decide) ?_
    refine cs_ret_p hC hw (cs_runS (As := [.int x1, .int 8]) (rest := []) hC hw (c_Pr_isBelow l D cA ad M x1 8 _) rfl rfl cw_Pr_64 ⟨Nat.le_of_ble_eq_true rfl, Nat.le_of_ble_eq_true rfl⟩ hl.1 rfl rfl (Nat.le_of_ble_eq_true rfl) d_Pr_isAction_47 ⟨Nat.zero_le _, Nat.zero_le _⟩) (fun r2 H locs er2 hw => ?_)
    have hp := cs_bdP er2 hp
    have hf := cs_bdE er2 hf
    have o3 := hp.1
    have hp := hp.2
    exact cs_zret hC hw hr hlk o3 (congrArg (fun z => (z, M)) hf) d_Pr_isAction_50
  · have hp := hp.2 c1
    have hf := hf.trans (if_neg c1)
    rcases Decidable.em (x0 = 1) with c4 | c4
    · have hp := hp.1 c4
      have hf := hf.trans (if_pos c4)
      refine lv_tableIn (off := 80) (tgt := 81) hx hb d_Pr_isAction_1 (by rw [c4]; decide) (by rw [c4]; decide) (by rw [c4] <;> rfl) (by decide) ?_
      refine lv_iconst (v := 1) hx hb d_Pr_isAction_81 (by decide) ?_
      exact cs_zret hC hw hr hlk (Or.inr rfl) (congrArg (fun z => (z, M)) hf) d_Pr_isAction_82
    · have hp := hp.2 c4
      have hf := hf.trans (if_neg c4)
      rcases Decidable.em (x0 = 2) with c5 | c5
      · have hp := hp.1 c5
        have hf := hf.trans (if_pos c5)
        refine lv_tableIn (off := 50) (tgt := 51) hx hb d_Pr_isAction_1 (by rw [c5]; decide) (by rw [c5]; decide) (by rw [c5] <;> rfl) (by decide) ?_
        refine lv_iload_n hx hb d_Pr_isAction_51 rfl (lv_at hl 1 rfl) ?_
        refine lv_iconst (v := 2) hx hb d_Pr_isAction_52 (by decide) ?_
        refine cs_ret_p hC hw (cs_runS (As := [.int x1, .int 2]) (rest := []) hC hw (c_Pr_isBelow l D cA ad M x1 2 _) rfl rfl cw_Pr_64 ⟨Nat.le_of_ble_eq_true rfl, Nat.le_of_ble_eq_true rfl⟩ hl.1 rfl rfl (Nat.le_of_ble_eq_true rfl) d_Pr_isAction_53 ⟨Nat.zero_le _, Nat.zero_le _⟩) (fun r6 H locs er6 hw => ?_)
        have hf := cs_bdE er6 hf
        refine lv_if_eq (tgt := 72) hx hb d_Pr_isAction_56 (by decide) (fun c7 => ?_) (fun c7 => ?_)
        · have hf := hf.trans (if_pos c7)
          refine lv_iconst (v := 0) hx hb d_Pr_isAction_72 (by decide) ?_
          exact cs_zret hC hw hr hlk (Or.inl rfl) (congrArg (fun z => (z, M)) hf) d_Pr_isAction_73
        · have hf := hf.trans (if_neg c7)
          refine lv_iload_n hx hb d_Pr_isAction_59 rfl (lv_at hl 2 rfl) ?_
          refine lv_bipush (v := 8) hx hb d_Pr_isAction_60 (by decide) ?_
          refine cs_ret_p hC hw (cs_runS (As := [.int x2, .int 8]) (rest := []) hC hw (c_Pr_isBelow l D cA ad M x2 8 _) rfl rfl cw_Pr_64 ⟨Nat.le_of_ble_eq_true rfl, Nat.le_of_ble_eq_true rfl⟩ hl.1 rfl rfl (Nat.le_of_ble_eq_true rfl) d_Pr_isAction_62 ⟨Nat.zero_le _, Nat.zero_le _⟩) (fun r8 H locs er8 hw => ?_)
          have hf := cs_bdE er8 hf
          refine lv_if_eq (tgt := 72) hx hb d_Pr_isAction_65 (by decide) (fun c9 => ?_) (fun c9 => ?_)
          · have hf := hf.trans (if_pos c9)
            refine lv_iconst (v := 0) hx hb d_Pr_isAction_72 (by decide) ?_
            exact cs_zret hC hw hr hlk (Or.inl rfl) (congrArg (fun z => (z, M)) hf) d_Pr_isAction_73
          · have hf := hf.trans (if_neg c9)
            refine lv_iconst (v := 1) hx hb d_Pr_isAction_68 (by decide) ?_
            refine lv_goto (tgt := 73) hx hb d_Pr_isAction_69 (by decide) ?_
            exact cs_zret hC hw hr hlk (Or.inr rfl) (congrArg (fun z => (z, M)) hf) d_Pr_isAction_73
      · have hp := hp.2 c5
        have hf := hf.trans (if_neg c5)
        rcases Decidable.em (x0 = 3) with c10 | c10
        · have hp := hp.1 c10
          have hf := hf.trans (if_pos c10)
          refine lv_tableIn (off := 73) (tgt := 74) hx hb d_Pr_isAction_1 (by rw [c10]; decide) (by rw [c10]; decide) (by rw [c10] <;> rfl) (by decide) ?_
          refine lv_iload_n hx hb d_Pr_isAction_74 rfl (lv_at hl 1 rfl) ?_
          refine lv_bipush (v := 10) hx hb d_Pr_isAction_75 (by decide) ?_
          refine cs_ret_p hC hw (cs_runS (As := [.int x1, .int 10]) (rest := []) hC hw (c_Pr_isBelow l D cA ad M x1 10 _) rfl rfl cw_Pr_64 ⟨Nat.le_of_ble_eq_true rfl, Nat.le_of_ble_eq_true rfl⟩ hl.1 rfl rfl (Nat.le_of_ble_eq_true rfl) d_Pr_isAction_77 ⟨Nat.zero_le _, Nat.zero_le _⟩) (fun r11 H locs er11 hw => ?_)
          have hp := cs_bdP er11 hp
          have hf := cs_bdE er11 hf
          have o12 := hp.1
          have hp := hp.2
          exact cs_zret hC hw hr hlk o12 (congrArg (fun z => (z, M)) hf) d_Pr_isAction_80
        · have hp := hp.2 c10
          have hf := hf.trans (if_neg c10)
          rcases Decidable.em (x0 = 4) with c13 | c13
          · have hp := hp.1 c13
            have hf := hf.trans (if_pos c13)
            refine lv_tableIn (off := 73) (tgt := 74) hx hb d_Pr_isAction_1 (by rw [c13]; decide) (by rw [c13]; decide) (by rw [c13] <;> rfl) (by decide) ?_
            refine lv_iload_n hx hb d_Pr_isAction_74 rfl (lv_at hl 1 rfl) ?_
            refine lv_bipush (v := 10) hx hb d_Pr_isAction_75 (by decide) ?_
            refine cs_ret_p hC hw (cs_runS (As := [.int x1, .int 10]) (rest := []) hC hw (c_Pr_isBelow l D cA ad M x1 10 _) rfl rfl cw_Pr_64 ⟨Nat.le_of_ble_eq_true rfl, Nat.le_of_ble_eq_true rfl⟩ hl.1 rfl rfl (Nat.le_of_ble_eq_true rfl) d_Pr_isAction_77 ⟨Nat.zero_le _, Nat.zero_le _⟩) (fun r14 H locs er14 hw => ?_)
            have hp := cs_bdP er14 hp
            have hf := cs_bdE er14 hf
            have o15 := hp.1
            have hp := hp.2
            exact cs_zret hC hw hr hlk o15 (congrArg (fun z => (z, M)) hf) d_Pr_isAction_80
          · have hp := hp.2 c13
            have hf := hf.trans (if_neg c13)
            rcases Decidable.em (x0 = 5) with c16 | c16
            · have hf := hf.trans (if_pos c16)
              refine lv_tableIn (off := 80) (tgt := 81) hx hb d_Pr_isAction_1 (by rw [c16]; decide) (by rw [c16]; decide) (by rw [c16] <;> rfl) (by decide) ?_
              refine lv_iconst (v := 1) hx hb d_Pr_isAction_81 (by decide) ?_
              exact cs_zret hC hw hr hlk (Or.inr rfl) (congrArg (fun z => (z, M)) hf) d_Pr_isAction_82
            · have hf := hf.trans (if_neg c16)
              rcases Decidable.em (x0 = 6) with c17 | c17
              · have hf := hf.trans (if_pos c17)
                refine lv_tableIn (off := 80) (tgt := 81) hx hb d_Pr_isAction_1 (by rw [c17]; decide) (by rw [c17]; decide) (by rw [c17] <;> rfl) (by decide) ?_
                refine lv_iconst (v := 1) hx hb d_Pr_isAction_81 (by decide) ?_
                exact cs_zret hC hw hr hlk (Or.inr rfl) (congrArg (fun z => (z, M)) hf) d_Pr_isAction_82
              · have hf := hf.trans (if_neg c17)
                refine lv_tableOut (tgt := 83) hx hb d_Pr_isAction_1 (by have q0 := lv_neT c1 (show (0 : Int32).toInt = 0 by decide); have q1 := lv_neT c4 (show (1 : Int32).toInt = 1 by decide); have q2 := lv_neT c5 (show (2 : Int32).toInt = 2 by decide); have q3 := lv_neT c10 (show (3 : Int32).toInt = 3 by decide); have q4 := lv_neT c13 (show (4 : Int32).toInt = 4 by decide); have q5 := lv_neT c16 (show (5 : Int32).toInt = 5 by decide); have q6 := lv_neT c17 (show (6 : Int32).toInt = 6 by decide); omega) (by decide) ?_
                refine lv_iconst (v := 0) hx hb d_Pr_isAction_83 (by decide) ?_
                exact cs_zret hC hw hr hlk (Or.inl rfl) (congrArg (fun z => (z, M)) hf) d_Pr_isAction_84
theorem d_Pr_addAction_0 : decode prog_5_method_9_code 0 = .ok (.aload_n 0, 1) := by decide +kernel
theorem d_Pr_addAction_1 : decode prog_5_method_9_code 1 = .ok (.iload_n 1, 1) := by decide +kernel
theorem d_Pr_addAction_2 : decode prog_5_method_9_code 2 = .ok (.invokevirtual 41, 3) := by decide +kernel
theorem d_Pr_addAction_5 : decode prog_5_method_9_code 5 = .ok (.ifCond .eq 13, 3) := by decide +kernel
theorem d_Pr_addAction_8 : decode prog_5_method_9_code 8 = .ok (.iload_n 2, 1) := by decide +kernel
theorem d_Pr_addAction_9 : decode prog_5_method_9_code 9 = .ok (.iload_n 3, 1) := by decide +kernel
theorem d_Pr_addAction_10 : decode prog_5_method_9_code 10 = .ok (.iload 4, 2) := by decide +kernel
theorem d_Pr_addAction_12 : decode prog_5_method_9_code 12 = .ok (.invokestatic 53, 3) := by decide +kernel
theorem d_Pr_addAction_15 : decode prog_5_method_9_code 15 = .ok (.ifCond .ne 5, 3) := by decide +kernel
theorem d_Pr_addAction_18 : decode prog_5_method_9_code 18 = .ok (.iconst (-1), 1) := by decide +kernel
theorem d_Pr_addAction_19 : decode prog_5_method_9_code 19 = .ok (.ireturn, 1) := by decide +kernel
theorem d_Pr_addAction_20 : decode prog_5_method_9_code 20 = .ok (.aload_n 0, 1) := by decide +kernel
theorem d_Pr_addAction_21 : decode prog_5_method_9_code 21 = .ok (.getfield 30, 3) := by decide +kernel
theorem d_Pr_addAction_24 : decode prog_5_method_9_code 24 = .ok (.iload_n 1, 1) := by decide +kernel
theorem d_Pr_addAction_25 : decode prog_5_method_9_code 25 = .ok (.aaload, 1) := by decide +kernel
theorem d_Pr_addAction_26 : decode prog_5_method_9_code 26 = .ok (.iload_n 2, 1) := by decide +kernel
theorem d_Pr_addAction_27 : decode prog_5_method_9_code 27 = .ok (.iload_n 3, 1) := by decide +kernel
theorem d_Pr_addAction_28 : decode prog_5_method_9_code 28 = .ok (.iload 4, 2) := by decide +kernel
theorem d_Pr_addAction_30 : decode prog_5_method_9_code 30 = .ok (.invokevirtual 57, 3) := by decide +kernel
theorem d_Pr_addAction_33 : decode prog_5_method_9_code 33 = .ok (.ireturn, 1) := by decide +kernel
def f_Pr_addAction (M : cs_Mem) (j : Nat) (x1 : Int32) (x2 : Int32) (x3 : Int32) (x4 : Int32) : Int32 × cs_Mem :=
  cs_bd (f_Pr_isDeclared M j x1) fun (r1 : Int32) =>
  if r1 = 0 then
    ((-1), M)
  else
    cs_bd (f_Pr_isAction M x2 x3 x4) fun (r4 : Int32) =>
    if r4 = 0 then
      ((-1), M)
    else
      cs_bd (f_Sc_addLast M (8 + 4 * x1.toNatClampNeg) x2 x3 x4) fun (u8 : Int32 × cs_Mem) =>
      (u8.1, u8.2)
def pre_Pr_addAction (M : cs_Mem) (j : Nat) (x1 : Int32) (x2 : Int32) (x3 : Int32) (x4 : Int32) : Prop :=
  cs_bd (f_Pr_isDeclared M j x1) fun (r1 : Int32) =>
  (r1 = 0 →
    True
  ) ∧ (¬ (r1 = 0) →
    (pre_Pr_isAction M x2 x3 x4) ∧
    cs_bd (f_Pr_isAction M x2 x3 x4) fun (r4 : Int32) =>
    (r4 = 0 →
      True
    ) ∧ (¬ (r4 = 0) →
      (vp_in x1 11) ∧
      (pre_Sc_addLast M (8 + 4 * x1.toNatClampNeg) x2 x3 x4) ∧
      True
    )
  )
set_option maxHeartbeats 4000000 in
set_option maxRecDepth 100000 in
theorem c_Pr_addAction (l : Launch) (D : va_G) (cA : Nat → ClassId) (ad : Nat → Nat) (M : cs_Mem) (j : Nat) (hj : cs_is 1 j) (x1 : Int32) (x2 : Int32) (x3 : Int32) (x4 : Int32) (hp : pre_Pr_addAction M j x1 x2 x3 x4) : cs_Ci l ⟨"ClassStarter$Program", "addAction", "(IIII)I"⟩ prog_5_method_9_code 5 (some .int) ({ frames := 2, cells := 0, slots := 0, locals := 47 }) D cA ad M [.ref (ad j), .int x1, .int x2, .int x3, .int x4] (f_Pr_addAction M j x1 x2 x3 x4) := by
  refine cs_entry (by decide) (Nat.le_of_ble_eq_true rfl) (fun p e s m below meth c A ls hC hr hlk _ hw hl => ?_)
  have hx := hC.1
  have hb := hC.2.1
  have hl : lv_has ls 5 [(0, .ref (ad j)), (1, .int x1), (2, .int x2), (3, .int x3), (4, .int x4)] := hl
  generalize hF : f_Pr_addAction M j x1 x2 x3 x4 = F
  have hf := hF.symm
  unfold f_Pr_addAction at hf
  unfold pre_Pr_addAction at hp
  refine lv_aload_n hx hb d_Pr_addAction_0 rfl (lv_at hl 0 rfl) ?_
  refine lv_iload_n hx hb d_Pr_addAction_1 rfl (lv_at hl 1 rfl) ?_
  refine cs_ret_p hC hw (cs_runV (As := [.int x1]) (rest := []) hC hw hj.2 (ci := 1) rfl rfl (cs_sg_is hj) (c_Pr_isDeclared l D cA ad M j hj x1 _) rfl rfl cw_Pr_41 ⟨Nat.le_of_ble_eq_true rfl, Nat.le_of_ble_eq_true rfl⟩ hl.1 rfl rfl (Nat.le_of_ble_eq_true rfl) d_Pr_addAction_2 ⟨Nat.zero_le _, Nat.zero_le _⟩) (fun r1 H locs er1 hw => ?_)
  have hp := cs_bdP er1 hp
  have hf := cs_bdE er1 hf
  refine lv_if_eq (tgt := 18) hx hb d_Pr_addAction_5 (by decide) (fun c2 => ?_) (fun c2 => ?_)
  · have hp := hp.1 c2
    have hf := hf.trans (if_pos c2)
    refine lv_iconst (v := (-1)) hx hb d_Pr_addAction_18 (by decide) ?_
    exact cs_iret hC hw hr hlk hf d_Pr_addAction_19
  · have hp := hp.2 c2
    have hf := hf.trans (if_neg c2)
    refine lv_iload_n hx hb d_Pr_addAction_8 rfl (lv_at hl 2 rfl) ?_
    refine lv_iload_n hx hb d_Pr_addAction_9 rfl (lv_at hl 3 rfl) ?_
    refine lv_iload hx hb d_Pr_addAction_10 (lv_at hl 4 rfl) ?_
    have o3 := hp.1
    have hp := hp.2
    refine cs_ret_p hC hw (cs_runS (As := [.int x2, .int x3, .int x4]) (rest := []) hC hw (c_Pr_isAction l D cA ad M x2 x3 x4 o3 _) rfl rfl cw_Pr_53 ⟨Nat.le_of_ble_eq_true rfl, Nat.le_of_ble_eq_true rfl⟩ hl.1 rfl rfl (Nat.le_of_ble_eq_true rfl) d_Pr_addAction_12 ⟨Nat.zero_le _, Nat.zero_le _⟩) (fun r4 H locs er4 hw => ?_)
    have hp := cs_bdP er4 hp
    have hf := cs_bdE er4 hf
    refine lv_if_ne (tgt := 20) hx hb d_Pr_addAction_15 (by decide) (fun c5 => ?_) (fun c5 => ?_)
    · have hp := hp.2 c5
      have hf := hf.trans (if_neg c5)
      refine lv_aload_n hx hb d_Pr_addAction_20 rfl (lv_at hl 0 rfl) ?_
      refine gf_Pr_scripts hC hw hj wd_100 d_Pr_addAction_21 ?_
      refine lv_iload_n hx hb d_Pr_addAction_24 rfl (lv_at hl 1 rfl) ?_
      have o6 := hp.1
      have hp := hp.2
      refine cs_aald22 hC hw is_7 o6 d_Pr_addAction_25 ?_
      refine lv_iload_n hx hb d_Pr_addAction_26 rfl (lv_at hl 2 rfl) ?_
      refine lv_iload_n hx hb d_Pr_addAction_27 rfl (lv_at hl 3 rfl) ?_
      refine lv_iload hx hb d_Pr_addAction_28 (lv_at hl 4 rfl) ?_
      have o7 := hp.1
      have hp := hp.2
      refine cs_ret_i hC hw (cs_runV (As := [.int x2, .int x3, .int x4]) (rest := []) hC hw (is_scr o6).2 (ci := 2) rfl rfl (cs_sg_is (is_scr o6)) (c_Sc_addLast l D cA ad M (8 + 4 * x1.toNatClampNeg) (is_scr o6) x2 x3 x4 o7 _) rfl rfl cw_Pr_57 ⟨Nat.le_of_ble_eq_true rfl, Nat.le_of_ble_eq_true rfl⟩ hl.1 rfl rfl (Nat.le_of_ble_eq_true rfl) d_Pr_addAction_30 ⟨Nat.zero_le _, Nat.zero_le _⟩) (fun u8 H locs eu8 hw => ?_)
      have hf := cs_bdE eu8 hf
      exact cs_iret hC hw hr hlk hf d_Pr_addAction_33
    · have hp := hp.1 c5
      have hf := hf.trans (if_pos c5)
      refine lv_iconst (v := (-1)) hx hb d_Pr_addAction_18 (by decide) ?_
      exact cs_iret hC hw hr hlk hf d_Pr_addAction_19
theorem d_Pr_addPlanned_0 : decode prog_5_method_10_code 0 = .ok (.iload_n 2, 1) := by decide +kernel
theorem d_Pr_addPlanned_1 : decode prog_5_method_10_code 1 = .ok (.ifCond .eq 14, 3) := by decide +kernel
theorem d_Pr_addPlanned_4 : decode prog_5_method_10_code 4 = .ok (.iload_n 2, 1) := by decide +kernel
theorem d_Pr_addPlanned_5 : decode prog_5_method_10_code 5 = .ok (.iconst 5, 1) := by decide +kernel
theorem d_Pr_addPlanned_6 : decode prog_5_method_10_code 6 = .ok (.if_icmp .eq 9, 3) := by decide +kernel
theorem d_Pr_addPlanned_9 : decode prog_5_method_10_code 9 = .ok (.iload_n 2, 1) := by decide +kernel
theorem d_Pr_addPlanned_10 : decode prog_5_method_10_code 10 = .ok (.bipush 6, 2) := by decide +kernel
theorem d_Pr_addPlanned_12 : decode prog_5_method_10_code 12 = .ok (.if_icmp .ne 7, 3) := by decide +kernel
theorem d_Pr_addPlanned_15 : decode prog_5_method_10_code 15 = .ok (.iconst 1, 1) := by decide +kernel
theorem d_Pr_addPlanned_16 : decode prog_5_method_10_code 16 = .ok (.goto 4, 3) := by decide +kernel
theorem d_Pr_addPlanned_19 : decode prog_5_method_10_code 19 = .ok (.iconst 0, 1) := by decide +kernel
theorem d_Pr_addPlanned_20 : decode prog_5_method_10_code 20 = .ok (.istore 4, 2) := by decide +kernel
theorem d_Pr_addPlanned_22 : decode prog_5_method_10_code 22 = .ok (.iload_n 1, 1) := by decide +kernel
theorem d_Pr_addPlanned_23 : decode prog_5_method_10_code 23 = .ok (.invokestatic 61, 3) := by decide +kernel
theorem d_Pr_addPlanned_26 : decode prog_5_method_10_code 26 = .ok (.ifCond .eq 17, 3) := by decide +kernel
theorem d_Pr_addPlanned_29 : decode prog_5_method_10_code 29 = .ok (.iload 4, 2) := by decide +kernel
theorem d_Pr_addPlanned_31 : decode prog_5_method_10_code 31 = .ok (.ifCond .eq 12, 3) := by decide +kernel
theorem d_Pr_addPlanned_34 : decode prog_5_method_10_code 34 = .ok (.iload_n 2, 1) := by decide +kernel
theorem d_Pr_addPlanned_35 : decode prog_5_method_10_code 35 = .ok (.iload_n 3, 1) := by decide +kernel
theorem d_Pr_addPlanned_36 : decode prog_5_method_10_code 36 = .ok (.iconst 0, 1) := by decide +kernel
theorem d_Pr_addPlanned_37 : decode prog_5_method_10_code 37 = .ok (.invokestatic 53, 3) := by decide +kernel
theorem d_Pr_addPlanned_40 : decode prog_5_method_10_code 40 = .ok (.ifCond .ne 5, 3) := by decide +kernel
theorem d_Pr_addPlanned_43 : decode prog_5_method_10_code 43 = .ok (.iconst (-1), 1) := by decide +kernel
theorem d_Pr_addPlanned_44 : decode prog_5_method_10_code 44 = .ok (.ireturn, 1) := by decide +kernel
theorem d_Pr_addPlanned_45 : decode prog_5_method_10_code 45 = .ok (.aload_n 0, 1) := by decide +kernel
theorem d_Pr_addPlanned_46 : decode prog_5_method_10_code 46 = .ok (.getfield 30, 3) := by decide +kernel
theorem d_Pr_addPlanned_49 : decode prog_5_method_10_code 49 = .ok (.bipush 8, 2) := by decide +kernel
theorem d_Pr_addPlanned_51 : decode prog_5_method_10_code 51 = .ok (.iload_n 1, 1) := by decide +kernel
theorem d_Pr_addPlanned_52 : decode prog_5_method_10_code 52 = .ok (.iadd, 1) := by decide +kernel
theorem d_Pr_addPlanned_53 : decode prog_5_method_10_code 53 = .ok (.aaload, 1) := by decide +kernel
theorem d_Pr_addPlanned_54 : decode prog_5_method_10_code 54 = .ok (.iload_n 2, 1) := by decide +kernel
theorem d_Pr_addPlanned_55 : decode prog_5_method_10_code 55 = .ok (.iload_n 3, 1) := by decide +kernel
theorem d_Pr_addPlanned_56 : decode prog_5_method_10_code 56 = .ok (.iconst 0, 1) := by decide +kernel
theorem d_Pr_addPlanned_57 : decode prog_5_method_10_code 57 = .ok (.invokevirtual 57, 3) := by decide +kernel
theorem d_Pr_addPlanned_60 : decode prog_5_method_10_code 60 = .ok (.ireturn, 1) := by decide +kernel
def f_Pr_addPlanned_J43 (M : cs_Mem)  : Int32 × cs_Mem :=
  ((-1), M)
def f_Pr_addPlanned_J15 (M : cs_Mem) (j : Nat) (y1 : Int32) (y2 : Int32) (y3 : Int32) : Int32 × cs_Mem :=
  cs_bd (f_X_isThread M y1) fun (r7 : Int32) =>
  if r7 = 0 then
    f_Pr_addPlanned_J43 M 
  else
    cs_bd (f_Pr_isAction M y2 y3 0) fun (r11 : Int32) =>
    if r11 = 0 then
      f_Pr_addPlanned_J43 M 
    else
      cs_bd (f_Sc_addLast M (8 + 4 * (8 + y1).toNatClampNeg) y2 y3 0) fun (u15 : Int32 × cs_Mem) =>
      (u15.1, u15.2)
def pre_Pr_addPlanned_J15 (M : cs_Mem) (j : Nat) (y1 : Int32) (y2 : Int32) (y3 : Int32) : Prop :=
  cs_bd (f_X_isThread M y1) fun (r7 : Int32) =>
  (r7 = 0 →
    True
  ) ∧ (¬ (r7 = 0) →
    (pre_Pr_isAction M y2 y3 0) ∧
    cs_bd (f_Pr_isAction M y2 y3 0) fun (r11 : Int32) =>
    (r11 = 0 →
      True
    ) ∧ (¬ (r11 = 0) →
      (vp_in (8 + y1) 11) ∧
      (pre_Sc_addLast M (8 + 4 * (8 + y1).toNatClampNeg) y2 y3 0) ∧
      True
    )
  )
def f_Pr_addPlanned (M : cs_Mem) (j : Nat) (x1 : Int32) (x2 : Int32) (x3 : Int32) : Int32 × cs_Mem :=
  if x2 = 0 then
    f_Pr_addPlanned_J15 M j x1 x2 x3
  else
    if x2 = 5 then
      f_Pr_addPlanned_J15 M j x1 x2 x3
    else
      if x2 = 6 then
        f_Pr_addPlanned_J15 M j x1 x2 x3
      else
        cs_bd (f_X_isThread M x1) fun (r4 : Int32) =>
        if r4 = 0 then
          f_Pr_addPlanned_J43 M 
        else
          f_Pr_addPlanned_J43 M 
def pre_Pr_addPlanned (M : cs_Mem) (j : Nat) (x1 : Int32) (x2 : Int32) (x3 : Int32) : Prop :=
  (x2 = 0 →
    pre_Pr_addPlanned_J15 M j x1 x2 x3
  ) ∧ (¬ (x2 = 0) →
    (x2 = 5 →
      pre_Pr_addPlanned_J15 M j x1 x2 x3
    ) ∧ (¬ (x2 = 5) →
      (x2 = 6 →
        pre_Pr_addPlanned_J15 M j x1 x2 x3
      ) ∧ (¬ (x2 = 6) →
        True
      )
    )
  )
set_option maxHeartbeats 4000000 in
set_option maxRecDepth 100000 in
theorem w_Pr_addPlanned_J43 {p : Program} {l : Launch} {e : Env} {s : State} {m : MethodId} {args : Array Value} {below : List Frame} {meth : Method} {c : Code} {D : va_G} {cA : Nat → ClassId} {A : Nat → Prop} {ad : Nat → Nat} {F : Int32 × cs_Mem} (hC : cs_Ctx p s m args c prog_5_method_10_code 5 "ClassStarter$Program" D cA A) (hr : meth.sig.returnType = (some .int)) (hlk : meth.locks = false) : ∀ (M : cs_Mem) (H : Heap) (locs : List Loc) (ls : Array Slot), cs_Wd D cA ad M A s H locs → lv_has ls 5 [] → F = f_Pr_addPlanned_J43 M  → W p l e ({ frames := 2, cells := 0, slots := 0, locals := 47 }) s m args below meth c H locs 0 0 (MQ below (cs_Qi D cA ad F A) args s 0 0 A) (F0 m 43 ls []) := by
  have hx := hC.1
  have hb := hC.2.1
  intro M  H locs ls hw hl  hf
  unfold f_Pr_addPlanned_J43 at hf
  refine lv_iconst (v := (-1)) hx hb d_Pr_addPlanned_43 (by decide) ?_
  exact cs_iret hC hw hr hlk hf d_Pr_addPlanned_44
set_option maxHeartbeats 4000000 in
set_option maxRecDepth 100000 in
theorem w_Pr_addPlanned_J15 {p : Program} {l : Launch} {e : Env} {s : State} {m : MethodId} {args : Array Value} {below : List Frame} {meth : Method} {c : Code} {D : va_G} {cA : Nat → ClassId} {A : Nat → Prop} {ad : Nat → Nat} {F : Int32 × cs_Mem} (hC : cs_Ctx p s m args c prog_5_method_10_code 5 "ClassStarter$Program" D cA A) (hr : meth.sig.returnType = (some .int)) (hlk : meth.locks = false) : ∀ (M : cs_Mem) (j : Nat) (y1 : Int32) (y2 : Int32) (y3 : Int32) (H : Heap) (locs : List Loc) (ls : Array Slot), cs_Wd D cA ad M A s H locs → lv_has ls 5 [(0, .ref (ad j)), (1, .int y1), (2, .int y2), (3, .int y3)] → cs_is 1 j → pre_Pr_addPlanned_J15 M j y1 y2 y3 → F = f_Pr_addPlanned_J15 M j y1 y2 y3 → W p l e ({ frames := 2, cells := 0, slots := 0, locals := 47 }) s m args below meth c H locs 0 0 (MQ below (cs_Qi D cA ad F A) args s 0 0 A) (F0 m 15 ls []) := by
  have hx := hC.1
  have hb := hC.2.1
  intro M j y1 y2 y3 H locs ls hw hl g0 hp hf
  unfold f_Pr_addPlanned_J15 at hf
  unfold pre_Pr_addPlanned_J15 at hp
  refine lv_iconst (v := 1) hx hb d_Pr_addPlanned_15 (by decide) ?_
  refine lv_goto (tgt := 20) hx hb d_Pr_addPlanned_16 (by decide) ?_
  refine lv_istore (lv' := [(4, .int 1), (0, .ref (ad j)), (1, .int y1), (2, .int y2), (3, .int y3)]) hx hb d_Pr_addPlanned_20 hl (by decide) rfl (fun ls hl => ?_)
  refine lv_iload_n hx hb d_Pr_addPlanned_22 rfl (lv_at hl 2 rfl) ?_
  refine cs_ret_p hC hw (cs_runSN (As := [.int y1]) (rest := []) hC hw (c_X_isThread l D cA ad M y1 _) rfl rfl cw_Pr_61 ⟨Nat.le_of_ble_eq_true rfl, Nat.le_of_ble_eq_true rfl⟩ hl.1 rfl rfl (Nat.le_of_ble_eq_true rfl) d_Pr_addPlanned_23 ⟨Nat.zero_le _, Nat.zero_le _⟩) (fun r7 H locs er7 hw => ?_)
  have hp := cs_bdP er7 hp
  have hf := cs_bdE er7 hf
  refine lv_if_eq (tgt := 43) hx hb d_Pr_addPlanned_26 (by decide) (fun c8 => ?_) (fun c8 => ?_)
  · have hp := hp.1 c8
    have hf := hf.trans (if_pos c8)
    exact w_Pr_addPlanned_J43 hC hr hlk M  _ _ ls hw (lv_sub hl [] rfl) hf
  · have hp := hp.2 c8
    have hf := hf.trans (if_neg c8)
    refine lv_iload hx hb d_Pr_addPlanned_29 (lv_at hl 0 rfl) ?_
    refine lv_if_eq (tgt := 43) hx hb d_Pr_addPlanned_31 (by decide) (fun c9 => absurd c9 (by decide)) (fun _ => ?_)
    refine lv_iload_n hx hb d_Pr_addPlanned_34 rfl (lv_at hl 3 rfl) ?_
    refine lv_iload_n hx hb d_Pr_addPlanned_35 rfl (lv_at hl 4 rfl) ?_
    refine lv_iconst (v := 0) hx hb d_Pr_addPlanned_36 (by decide) ?_
    have o10 := hp.1
    have hp := hp.2
    refine cs_ret_p hC hw (cs_runS (As := [.int y2, .int y3, .int 0]) (rest := []) hC hw (c_Pr_isAction l D cA ad M y2 y3 0 o10 _) rfl rfl cw_Pr_53 ⟨Nat.le_of_ble_eq_true rfl, Nat.le_of_ble_eq_true rfl⟩ hl.1 rfl rfl (Nat.le_of_ble_eq_true rfl) d_Pr_addPlanned_37 ⟨Nat.zero_le _, Nat.zero_le _⟩) (fun r11 H locs er11 hw => ?_)
    have hp := cs_bdP er11 hp
    have hf := cs_bdE er11 hf
    refine lv_if_ne (tgt := 45) hx hb d_Pr_addPlanned_40 (by decide) (fun c12 => ?_) (fun c12 => ?_)
    · have hp := hp.2 c12
      have hf := hf.trans (if_neg c12)
      refine lv_aload_n hx hb d_Pr_addPlanned_45 rfl (lv_at hl 1 rfl) ?_
      refine gf_Pr_scripts hC hw g0 wd_100 d_Pr_addPlanned_46 ?_
      refine lv_bipush (v := 8) hx hb d_Pr_addPlanned_49 (by decide) ?_
      refine lv_iload_n hx hb d_Pr_addPlanned_51 rfl (lv_at hl 2 rfl) ?_
      refine lv_iadd hx hb d_Pr_addPlanned_52 ?_
      have o13 := hp.1
      have hp := hp.2
      refine cs_aald22 hC hw is_7 o13 d_Pr_addPlanned_53 ?_
      refine lv_iload_n hx hb d_Pr_addPlanned_54 rfl (lv_at hl 3 rfl) ?_
      refine lv_iload_n hx hb d_Pr_addPlanned_55 rfl (lv_at hl 4 rfl) ?_
      refine lv_iconst (v := 0) hx hb d_Pr_addPlanned_56 (by decide) ?_
      have o14 := hp.1
      have hp := hp.2
      refine cs_ret_i hC hw (cs_runV (As := [.int y2, .int y3, .int 0]) (rest := []) hC hw (is_scr o13).2 (ci := 2) rfl rfl (cs_sg_is (is_scr o13)) (c_Sc_addLast l D cA ad M (8 + 4 * (8 + y1).toNatClampNeg) (is_scr o13) y2 y3 0 o14 _) rfl rfl cw_Pr_57 ⟨Nat.le_of_ble_eq_true rfl, Nat.le_of_ble_eq_true rfl⟩ hl.1 rfl rfl (Nat.le_of_ble_eq_true rfl) d_Pr_addPlanned_57 ⟨Nat.zero_le _, Nat.zero_le _⟩) (fun u15 H locs eu15 hw => ?_)
      have hf := cs_bdE eu15 hf
      exact cs_iret hC hw hr hlk hf d_Pr_addPlanned_60
    · have hp := hp.1 c12
      have hf := hf.trans (if_pos c12)
      exact w_Pr_addPlanned_J43 hC hr hlk M  _ _ ls hw (lv_sub hl [] rfl) hf
set_option maxHeartbeats 4000000 in
set_option maxRecDepth 100000 in
theorem c_Pr_addPlanned (l : Launch) (D : va_G) (cA : Nat → ClassId) (ad : Nat → Nat) (M : cs_Mem) (j : Nat) (hj : cs_is 1 j) (x1 : Int32) (x2 : Int32) (x3 : Int32) (hp : pre_Pr_addPlanned M j x1 x2 x3) : cs_Ci l ⟨"ClassStarter$Program", "addPlanned", "(III)I"⟩ prog_5_method_10_code 5 (some .int) ({ frames := 2, cells := 0, slots := 0, locals := 47 }) D cA ad M [.ref (ad j), .int x1, .int x2, .int x3] (f_Pr_addPlanned M j x1 x2 x3) := by
  refine cs_entry (by decide) (Nat.le_of_ble_eq_true rfl) (fun p e s m below meth c A ls hC hr hlk _ hw hl => ?_)
  have hx := hC.1
  have hb := hC.2.1
  have hl : lv_has ls 5 [(0, .ref (ad j)), (1, .int x1), (2, .int x2), (3, .int x3)] := hl
  generalize hF : f_Pr_addPlanned M j x1 x2 x3 = F
  have hf := hF.symm
  unfold f_Pr_addPlanned at hf
  unfold pre_Pr_addPlanned at hp
  refine lv_iload_n hx hb d_Pr_addPlanned_0 rfl (lv_at hl 2 rfl) ?_
  refine lv_if_eq (tgt := 15) hx hb d_Pr_addPlanned_1 (by decide) (fun c1 => ?_) (fun c1 => ?_)
  · have hp := hp.1 c1
    have hf := hf.trans (if_pos c1)
    exact w_Pr_addPlanned_J15 hC hr hlk M j x1 x2 x3 _ _ ls hw (lv_sub hl [0, 1, 2, 3] rfl) hj hp hf
  · have hp := hp.2 c1
    have hf := hf.trans (if_neg c1)
    refine lv_iload_n hx hb d_Pr_addPlanned_4 rfl (lv_at hl 2 rfl) ?_
    refine lv_iconst (v := 5) hx hb d_Pr_addPlanned_5 (by decide) ?_
    refine lv_icmp_eq (tgt := 15) hx hb d_Pr_addPlanned_6 (by decide) (fun c2 => ?_) (fun c2 => ?_)
    · have hp := hp.1 c2
      have hf := hf.trans (if_pos c2)
      exact w_Pr_addPlanned_J15 hC hr hlk M j x1 x2 x3 _ _ ls hw (lv_sub hl [0, 1, 2, 3] rfl) hj hp hf
    · have hp := hp.2 c2
      have hf := hf.trans (if_neg c2)
      refine lv_iload_n hx hb d_Pr_addPlanned_9 rfl (lv_at hl 2 rfl) ?_
      refine lv_bipush (v := 6) hx hb d_Pr_addPlanned_10 (by decide) ?_
      refine lv_icmp_ne (tgt := 19) hx hb d_Pr_addPlanned_12 (by decide) (fun c3 => ?_) (fun c3 => ?_)
      · have hp := hp.2 c3
        have hf := hf.trans (if_neg c3)
        refine lv_iconst (v := 0) hx hb d_Pr_addPlanned_19 (by decide) ?_
        refine lv_istore (lv' := [(4, .int 0), (0, .ref (ad j)), (1, .int x1), (2, .int x2), (3, .int x3)]) hx hb d_Pr_addPlanned_20 hl (by decide) rfl (fun ls hl => ?_)
        refine lv_iload_n hx hb d_Pr_addPlanned_22 rfl (lv_at hl 2 rfl) ?_
        refine cs_ret_p hC hw (cs_runSN (As := [.int x1]) (rest := []) hC hw (c_X_isThread l D cA ad M x1 _) rfl rfl cw_Pr_61 ⟨Nat.le_of_ble_eq_true rfl, Nat.le_of_ble_eq_true rfl⟩ hl.1 rfl rfl (Nat.le_of_ble_eq_true rfl) d_Pr_addPlanned_23 ⟨Nat.zero_le _, Nat.zero_le _⟩) (fun r4 H locs er4 hw => ?_)
        have hf := cs_bdE er4 hf
        refine lv_if_eq (tgt := 43) hx hb d_Pr_addPlanned_26 (by decide) (fun c5 => ?_) (fun c5 => ?_)
        · have hf := hf.trans (if_pos c5)
          exact w_Pr_addPlanned_J43 hC hr hlk M  _ _ ls hw (lv_sub hl [] rfl) hf
        · have hf := hf.trans (if_neg c5)
          refine lv_iload hx hb d_Pr_addPlanned_29 (lv_at hl 0 rfl) ?_
          refine lv_if_eq (tgt := 43) hx hb d_Pr_addPlanned_31 (by decide) (fun _ => ?_) (fun c6 => absurd c6 (by decide))
          exact w_Pr_addPlanned_J43 hC hr hlk M  _ _ ls hw (lv_sub hl [] rfl) hf
      · have hp := hp.1 c3
        have hf := hf.trans (if_pos c3)
        exact w_Pr_addPlanned_J15 hC hr hlk M j x1 x2 x3 _ _ ls hw (lv_sub hl [0, 1, 2, 3] rfl) hj hp hf
theorem d_Pr_script_0 : decode prog_5_method_4_code 0 = .ok (.aload_n 0, 1) := by decide +kernel
theorem d_Pr_script_1 : decode prog_5_method_4_code 1 = .ok (.getfield 30, 3) := by decide +kernel
theorem d_Pr_script_4 : decode prog_5_method_4_code 4 = .ok (.iload_n 1, 1) := by decide +kernel
theorem d_Pr_script_5 : decode prog_5_method_4_code 5 = .ok (.aaload, 1) := by decide +kernel
theorem d_Pr_script_6 : decode prog_5_method_4_code 6 = .ok (.areturn, 1) := by decide +kernel
def f_Pr_script (M : cs_Mem) (j : Nat) (x1 : Int32) : Nat :=
  8 + 4 * x1.toNatClampNeg
def pre_Pr_script (M : cs_Mem) (j : Nat) (x1 : Int32) : Prop :=
  (vp_in x1 11) ∧
  True
set_option maxHeartbeats 4000000 in
set_option maxRecDepth 100000 in
theorem c_Pr_script (l : Launch) (D : va_G) (cA : Nat → ClassId) (ad : Nat → Nat) (M : cs_Mem) (j : Nat) (hj : cs_is 1 j) (x1 : Int32) (hp : pre_Pr_script M j x1) : cs_Cr l ⟨"ClassStarter$Program", "script", "(I)LClassStarter$Script;"⟩ prog_5_method_4_code 2 (some (.object "ClassStarter$Script")) ({ frames := 0, cells := 0, slots := 0, locals := 0 }) D cA ad M [.ref (ad j), .int x1] ((f_Pr_script M j x1, M)) := by
  refine cs_entry (by decide) (Nat.le_of_ble_eq_true rfl) (fun p e s m below meth c A ls hC hr hlk _ hw hl => ?_)
  have hx := hC.1
  have hb := hC.2.1
  have hl : lv_has ls 2 [(0, .ref (ad j)), (1, .int x1)] := hl
  generalize hF : f_Pr_script M j x1 = F
  have hf := hF.symm
  unfold f_Pr_script at hf
  unfold pre_Pr_script at hp
  refine lv_aload_n hx hb d_Pr_script_0 rfl (lv_at hl 0 rfl) ?_
  refine gf_Pr_scripts hC hw hj wd_100 d_Pr_script_1 ?_
  refine lv_iload_n hx hb d_Pr_script_4 rfl (lv_at hl 1 rfl) ?_
  have o1 := hp.1
  have hp := hp.2
  refine cs_aald22 hC hw is_7 o1 d_Pr_script_5 ?_
  exact cs_aret hC hw hr (Or.inl ⟨_, rfl⟩) hlk (congrArg (fun z => (z, M)) hf) d_Pr_script_6
theorem is_script {M : cs_Mem} {j : Nat} {x : Int32} {u : Nat} (e : u = f_Pr_script M j x) (hq : pre_Pr_script M j x) : cs_is 2 u := by
  subst e
  exact is_scr hq.1
theorem d_Pr_usedBy_0 : decode prog_5_method_13_code 0 = .ok (.aload_n 0, 1) := by decide +kernel
theorem d_Pr_usedBy_1 : decode prog_5_method_13_code 1 = .ok (.getfield 30, 3) := by decide +kernel
theorem d_Pr_usedBy_4 : decode prog_5_method_13_code 4 = .ok (.iload_n 1, 1) := by decide +kernel
theorem d_Pr_usedBy_5 : decode prog_5_method_13_code 5 = .ok (.aaload, 1) := by decide +kernel
theorem d_Pr_usedBy_6 : decode prog_5_method_13_code 6 = .ok (.astore_n 3, 1) := by decide +kernel
theorem d_Pr_usedBy_7 : decode prog_5_method_13_code 7 = .ok (.aload_n 3, 1) := by decide +kernel
theorem d_Pr_usedBy_8 : decode prog_5_method_13_code 8 = .ok (.iload_n 2, 1) := by decide +kernel
theorem d_Pr_usedBy_9 : decode prog_5_method_13_code 9 = .ok (.invokevirtual 67, 3) := by decide +kernel
theorem d_Pr_usedBy_12 : decode prog_5_method_13_code 12 = .ok (.lookupswitch 67 #[(0, 28), (2, 34)], 28) := by decide +kernel
theorem d_Pr_usedBy_40 : decode prog_5_method_13_code 40 = .ok (.aload_n 3, 1) := by decide +kernel
theorem d_Pr_usedBy_41 : decode prog_5_method_13_code 41 = .ok (.iload_n 2, 1) := by decide +kernel
theorem d_Pr_usedBy_42 : decode prog_5_method_13_code 42 = .ok (.invokevirtual 71, 3) := by decide +kernel
theorem d_Pr_usedBy_45 : decode prog_5_method_13_code 45 = .ok (.ireturn, 1) := by decide +kernel
theorem d_Pr_usedBy_46 : decode prog_5_method_13_code 46 = .ok (.aload_n 3, 1) := by decide +kernel
theorem d_Pr_usedBy_47 : decode prog_5_method_13_code 47 = .ok (.iload_n 2, 1) := by decide +kernel
theorem d_Pr_usedBy_48 : decode prog_5_method_13_code 48 = .ok (.invokevirtual 74, 3) := by decide +kernel
theorem d_Pr_usedBy_51 : decode prog_5_method_13_code 51 = .ok (.istore 4, 2) := by decide +kernel
theorem d_Pr_usedBy_53 : decode prog_5_method_13_code 53 = .ok (.aload_n 3, 1) := by decide +kernel
theorem d_Pr_usedBy_54 : decode prog_5_method_13_code 54 = .ok (.iload_n 2, 1) := by decide +kernel
theorem d_Pr_usedBy_55 : decode prog_5_method_13_code 55 = .ok (.invokevirtual 71, 3) := by decide +kernel
theorem d_Pr_usedBy_58 : decode prog_5_method_13_code 58 = .ok (.iconst 1, 1) := by decide +kernel
theorem d_Pr_usedBy_59 : decode prog_5_method_13_code 59 = .ok (.if_icmp .ne 17, 3) := by decide +kernel
theorem d_Pr_usedBy_62 : decode prog_5_method_13_code 62 = .ok (.aload_n 0, 1) := by decide +kernel
theorem d_Pr_usedBy_63 : decode prog_5_method_13_code 63 = .ok (.getfield 15, 3) := by decide +kernel
theorem d_Pr_usedBy_66 : decode prog_5_method_13_code 66 = .ok (.iload 4, 2) := by decide +kernel
theorem d_Pr_usedBy_68 : decode prog_5_method_13_code 68 = .ok (.baload, 1) := by decide +kernel
theorem d_Pr_usedBy_69 : decode prog_5_method_13_code 69 = .ok (.ifCond .eq 7, 3) := by decide +kernel
theorem d_Pr_usedBy_72 : decode prog_5_method_13_code 72 = .ok (.iconst (-1), 1) := by decide +kernel
theorem d_Pr_usedBy_73 : decode prog_5_method_13_code 73 = .ok (.goto 5, 3) := by decide +kernel
theorem d_Pr_usedBy_76 : decode prog_5_method_13_code 76 = .ok (.iload 4, 2) := by decide +kernel
theorem d_Pr_usedBy_78 : decode prog_5_method_13_code 78 = .ok (.ireturn, 1) := by decide +kernel
theorem d_Pr_usedBy_79 : decode prog_5_method_13_code 79 = .ok (.iconst (-1), 1) := by decide +kernel
theorem d_Pr_usedBy_80 : decode prog_5_method_13_code 80 = .ok (.ireturn, 1) := by decide +kernel
def f_Pr_usedBy (M : cs_Mem) (j : Nat) (x1 : Int32) (x2 : Int32) : Int32 :=
  cs_bd (f_Sc_actionAt M (8 + 4 * x1.toNatClampNeg) x2) fun (r3 : Int32) =>
  if r3 = 0 then
    cs_bd (f_Sc_firstOperandAt M (8 + 4 * x1.toNatClampNeg) x2) fun (r6 : Int32) =>
    r6
  else
    if r3 = 2 then
      cs_bd (f_Sc_secondOperandAt M (8 + 4 * x1.toNatClampNeg) x2) fun (r9 : Int32) =>
      cs_bd (f_Sc_firstOperandAt M (8 + 4 * x1.toNatClampNeg) x2) fun (r11 : Int32) =>
      if r11 = 1 then
        if (M 3 r9.toNatClampNeg) = 0 then
          r9
        else
          (-1)
      else
        r9
    else
      (-1)
def pre_Pr_usedBy (M : cs_Mem) (j : Nat) (x1 : Int32) (x2 : Int32) : Prop :=
  (vp_in x1 11) ∧
  (pre_Sc_actionAt M (8 + 4 * x1.toNatClampNeg) x2) ∧
  cs_bd (f_Sc_actionAt M (8 + 4 * x1.toNatClampNeg) x2) fun (r3 : Int32) =>
  (r3 = 0 →
    (pre_Sc_firstOperandAt M (8 + 4 * x1.toNatClampNeg) x2) ∧
    True
  ) ∧ (¬ (r3 = 0) →
    (r3 = 2 →
      (pre_Sc_secondOperandAt M (8 + 4 * x1.toNatClampNeg) x2) ∧
      cs_bd (f_Sc_secondOperandAt M (8 + 4 * x1.toNatClampNeg) x2) fun (r9 : Int32) =>
      (pre_Sc_firstOperandAt M (8 + 4 * x1.toNatClampNeg) x2) ∧
      cs_bd (f_Sc_firstOperandAt M (8 + 4 * x1.toNatClampNeg) x2) fun (r11 : Int32) =>
      (r11 = 1 →
        (vp_in r9 (cs_ln M 3)) ∧
        True
      ) ∧ (¬ (r11 = 1) →
        True
      )
    ) ∧ (¬ (r3 = 2) →
      True
    )
  )
set_option maxHeartbeats 4000000 in
set_option maxRecDepth 100000 in
theorem c_Pr_usedBy (l : Launch) (D : va_G) (cA : Nat → ClassId) (ad : Nat → Nat) (M : cs_Mem) (j : Nat) (hj : cs_is 1 j) (x1 : Int32) (x2 : Int32) (hp : pre_Pr_usedBy M j x1 x2) : cs_Ci l ⟨"ClassStarter$Program", "usedBy", "(II)I"⟩ prog_5_method_13_code 5 (some .int) ({ frames := 1, cells := 0, slots := 0, locals := 21 }) D cA ad M [.ref (ad j), .int x1, .int x2] ((f_Pr_usedBy M j x1 x2, M)) := by
  refine cs_entry (by decide) (Nat.le_of_ble_eq_true rfl) (fun p e s m below meth c A ls hC hr hlk _ hw hl => ?_)
  have hx := hC.1
  have hb := hC.2.1
  have hl : lv_has ls 5 [(0, .ref (ad j)), (1, .int x1), (2, .int x2)] := hl
  generalize hF : f_Pr_usedBy M j x1 x2 = F
  have hf := hF.symm
  unfold f_Pr_usedBy at hf
  unfold pre_Pr_usedBy at hp
  refine lv_aload_n hx hb d_Pr_usedBy_0 rfl (lv_at hl 0 rfl) ?_
  refine gf_Pr_scripts hC hw hj wd_100 d_Pr_usedBy_1 ?_
  refine lv_iload_n hx hb d_Pr_usedBy_4 rfl (lv_at hl 1 rfl) ?_
  have o1 := hp.1
  have hp := hp.2
  refine cs_aald22 hC hw is_7 o1 d_Pr_usedBy_5 ?_
  refine lv_astore_n (lv' := [(3, .ref (ad (8 + 4 * x1.toNatClampNeg))), (0, .ref (ad j)), (1, .int x1), (2, .int x2)]) hx hb d_Pr_usedBy_6 rfl hl (by decide) rfl (fun ls hl => ?_)
  refine lv_aload_n hx hb d_Pr_usedBy_7 rfl (lv_at hl 0 rfl) ?_
  refine lv_iload_n hx hb d_Pr_usedBy_8 rfl (lv_at hl 3 rfl) ?_
  have o2 := hp.1
  have hp := hp.2
  refine cs_ret_p hC hw (cs_runV (As := [.int x2]) (rest := []) hC hw (is_scr o1).2 (ci := 2) rfl rfl (cs_sg_is (is_scr o1)) (c_Sc_actionAt l D cA ad M (8 + 4 * x1.toNatClampNeg) (is_scr o1) x2 o2 _) rfl rfl cw_Pr_67 ⟨Nat.le_of_ble_eq_true rfl, Nat.le_of_ble_eq_true rfl⟩ hl.1 rfl rfl (Nat.le_of_ble_eq_true rfl) d_Pr_usedBy_9 ⟨Nat.zero_le _, Nat.zero_le _⟩) (fun r3 H locs er3 hw => ?_)
  have hp := cs_bdP er3 hp
  have hf := cs_bdE er3 hf
  rcases Decidable.em (r3 = 0) with c4 | c4
  · have hp := hp.1 c4
    have hf := hf.trans (if_pos c4)
    refine lv_lookup (off := 28) (tgt := 40) hx hb d_Pr_usedBy_12 (by decide) (by rw [c4] <;> rfl) (by decide) ?_
    refine lv_aload_n hx hb d_Pr_usedBy_40 rfl (lv_at hl 0 rfl) ?_
    refine lv_iload_n hx hb d_Pr_usedBy_41 rfl (lv_at hl 3 rfl) ?_
    have o5 := hp.1
    have hp := hp.2
    refine cs_ret_p hC hw (cs_runV (As := [.int x2]) (rest := []) hC hw (is_scr o1).2 (ci := 2) rfl rfl (cs_sg_is (is_scr o1)) (c_Sc_firstOperandAt l D cA ad M (8 + 4 * x1.toNatClampNeg) (is_scr o1) x2 o5 _) rfl rfl cw_Pr_71 ⟨Nat.le_of_ble_eq_true rfl, Nat.le_of_ble_eq_true rfl⟩ hl.1 rfl rfl (Nat.le_of_ble_eq_true rfl) d_Pr_usedBy_42 ⟨Nat.zero_le _, Nat.zero_le _⟩) (fun r6 H locs er6 hw => ?_)
    have hf := cs_bdE er6 hf
    exact cs_iret hC hw hr hlk (congrArg (fun z => (z, M)) hf) d_Pr_usedBy_45
  · have hp := hp.2 c4
    have hf := hf.trans (if_neg c4)
    rcases Decidable.em (r3 = 2) with c7 | c7
    · have hp := hp.1 c7
      have hf := hf.trans (if_pos c7)
      refine lv_lookup (off := 34) (tgt := 46) hx hb d_Pr_usedBy_12 (by decide) (by rw [lv_osw c4 (by decide), c7] <;> rfl) (by decide) ?_
      refine lv_aload_n hx hb d_Pr_usedBy_46 rfl (lv_at hl 0 rfl) ?_
      refine lv_iload_n hx hb d_Pr_usedBy_47 rfl (lv_at hl 3 rfl) ?_
      have o8 := hp.1
      have hp := hp.2
      refine cs_ret_p hC hw (cs_runV (As := [.int x2]) (rest := []) hC hw (is_scr o1).2 (ci := 2) rfl rfl (cs_sg_is (is_scr o1)) (c_Sc_secondOperandAt l D cA ad M (8 + 4 * x1.toNatClampNeg) (is_scr o1) x2 o8 _) rfl rfl cw_Pr_74 ⟨Nat.le_of_ble_eq_true rfl, Nat.le_of_ble_eq_true rfl⟩ hl.1 rfl rfl (Nat.le_of_ble_eq_true rfl) d_Pr_usedBy_48 ⟨Nat.zero_le _, Nat.zero_le _⟩) (fun r9 H locs er9 hw => ?_)
      have hp := cs_bdP er9 hp
      have hf := cs_bdE er9 hf
      refine lv_istore (lv' := [(4, .int r9), (3, .ref (ad (8 + 4 * x1.toNatClampNeg))), (0, .ref (ad j)), (1, .int x1), (2, .int x2)]) hx hb d_Pr_usedBy_51 hl (by decide) rfl (fun ls hl => ?_)
      refine lv_aload_n hx hb d_Pr_usedBy_53 rfl (lv_at hl 1 rfl) ?_
      refine lv_iload_n hx hb d_Pr_usedBy_54 rfl (lv_at hl 4 rfl) ?_
      have o10 := hp.1
      have hp := hp.2
      refine cs_ret_p hC hw (cs_runV (As := [.int x2]) (rest := []) hC hw (is_scr o1).2 (ci := 2) rfl rfl (cs_sg_is (is_scr o1)) (c_Sc_firstOperandAt l D cA ad M (8 + 4 * x1.toNatClampNeg) (is_scr o1) x2 o10 _) rfl rfl cw_Pr_71 ⟨Nat.le_of_ble_eq_true rfl, Nat.le_of_ble_eq_true rfl⟩ hl.1 rfl rfl (Nat.le_of_ble_eq_true rfl) d_Pr_usedBy_55 ⟨Nat.zero_le _, Nat.zero_le _⟩) (fun r11 H locs er11 hw => ?_)
      have hp := cs_bdP er11 hp
      have hf := cs_bdE er11 hf
      refine lv_iconst (v := 1) hx hb d_Pr_usedBy_58 (by decide) ?_
      refine lv_icmp_ne (tgt := 76) hx hb d_Pr_usedBy_59 (by decide) (fun c12 => ?_) (fun c12 => ?_)
      · have hp := hp.2 c12
        have hf := hf.trans (if_neg c12)
        refine lv_iload hx hb d_Pr_usedBy_76 (lv_at hl 0 rfl) ?_
        exact cs_iret hC hw hr hlk (congrArg (fun z => (z, M)) hf) d_Pr_usedBy_78
      · have hp := hp.1 c12
        have hf := hf.trans (if_pos c12)
        refine lv_aload_n hx hb d_Pr_usedBy_62 rfl (lv_at hl 2 rfl) ?_
        refine gf_Pr_constants hC hw hj wd_96 d_Pr_usedBy_63 ?_
        refine lv_iload hx hb d_Pr_usedBy_66 (lv_at hl 0 rfl) ?_
        have o13 := hp.1
        have hp := hp.2
        refine cs_zald hC hw is_3 o13 d_Pr_usedBy_68 ?_
        refine lv_if_eq (tgt := 76) hx hb d_Pr_usedBy_69 (by decide) (fun c14 => ?_) (fun c14 => ?_)
        · have hf := hf.trans (if_pos c14)
          refine lv_iload hx hb d_Pr_usedBy_76 (lv_at hl 0 rfl) ?_
          exact cs_iret hC hw hr hlk (congrArg (fun z => (z, M)) hf) d_Pr_usedBy_78
        · have hf := hf.trans (if_neg c14)
          refine lv_iconst (v := (-1)) hx hb d_Pr_usedBy_72 (by decide) ?_
          refine lv_goto (tgt := 78) hx hb d_Pr_usedBy_73 (by decide) ?_
          exact cs_iret hC hw hr hlk (congrArg (fun z => (z, M)) hf) d_Pr_usedBy_78
    · have hp := hp.2 c7
      have hf := hf.trans (if_neg c7)
      refine lv_lookup (off := 67) (tgt := 79) hx hb d_Pr_usedBy_12 (by decide) (by rw [lv_osw c4 (by decide), lv_osw c7 (by decide)] <;> rfl) (by decide) ?_
      refine lv_iconst (v := (-1)) hx hb d_Pr_usedBy_79 (by decide) ?_
      exact cs_iret hC hw hr hlk (congrArg (fun z => (z, M)) hf) d_Pr_usedBy_80
theorem d_Pr_secondStatic_0 : decode prog_5_method_5_code 0 = .ok (.aload_n 0, 1) := by decide +kernel
theorem d_Pr_secondStatic_1 : decode prog_5_method_5_code 1 = .ok (.getfield 18, 3) := by decide +kernel
theorem d_Pr_secondStatic_4 : decode prog_5_method_5_code 4 = .ok (.iload_n 1, 1) := by decide +kernel
theorem d_Pr_secondStatic_5 : decode prog_5_method_5_code 5 = .ok (.iaload, 1) := by decide +kernel
theorem d_Pr_secondStatic_6 : decode prog_5_method_5_code 6 = .ok (.ireturn, 1) := by decide +kernel
def f_Pr_secondStatic (M : cs_Mem) (j : Nat) (x1 : Int32) : Int32 :=
  M 4 x1.toNatClampNeg
def pre_Pr_secondStatic (M : cs_Mem) (j : Nat) (x1 : Int32) : Prop :=
  (vp_in x1 (cs_ln M 4)) ∧
  True
set_option maxHeartbeats 4000000 in
set_option maxRecDepth 100000 in
theorem c_Pr_secondStatic (l : Launch) (D : va_G) (cA : Nat → ClassId) (ad : Nat → Nat) (M : cs_Mem) (j : Nat) (hj : cs_is 1 j) (x1 : Int32) (hp : pre_Pr_secondStatic M j x1) : cs_Ci l ⟨"ClassStarter$Program", "secondStatic", "(I)I"⟩ prog_5_method_5_code 2 (some .int) ({ frames := 0, cells := 0, slots := 0, locals := 0 }) D cA ad M [.ref (ad j), .int x1] ((f_Pr_secondStatic M j x1, M)) := by
  refine cs_entry (by decide) (Nat.le_of_ble_eq_true rfl) (fun p e s m below meth c A ls hC hr hlk _ hw hl => ?_)
  have hx := hC.1
  have hb := hC.2.1
  have hl : lv_has ls 2 [(0, .ref (ad j)), (1, .int x1)] := hl
  generalize hF : f_Pr_secondStatic M j x1 = F
  have hf := hF.symm
  unfold f_Pr_secondStatic at hf
  unfold pre_Pr_secondStatic at hp
  refine lv_aload_n hx hb d_Pr_secondStatic_0 rfl (lv_at hl 0 rfl) ?_
  refine gf_Pr_constantValues hC hw hj wd_97 d_Pr_secondStatic_1 ?_
  refine lv_iload_n hx hb d_Pr_secondStatic_4 rfl (lv_at hl 1 rfl) ?_
  have o1 := hp.1
  have hp := hp.2
  refine cs_iald hC hw is_4 o1 d_Pr_secondStatic_5 ?_
  exact cs_iret hC hw hr hlk (congrArg (fun z => (z, M)) hf) d_Pr_secondStatic_6
theorem d_Pr_classCount_0 : decode prog_5_method_2_code 0 = .ok (.aload_n 0, 1) := by decide +kernel
theorem d_Pr_classCount_1 : decode prog_5_method_2_code 1 = .ok (.getfield 37, 3) := by decide +kernel
theorem d_Pr_classCount_4 : decode prog_5_method_2_code 4 = .ok (.ireturn, 1) := by decide +kernel
def f_Pr_classCount (M : cs_Mem) (j : Nat) : Int32 :=
  M j 6
set_option maxHeartbeats 4000000 in
set_option maxRecDepth 100000 in
theorem c_Pr_classCount (l : Launch) (D : va_G) (cA : Nat → ClassId) (ad : Nat → Nat) (M : cs_Mem) (j : Nat) (hj : cs_is 1 j) : cs_Ci l ⟨"ClassStarter$Program", "classCount", "()I"⟩ prog_5_method_2_code 1 (some .int) ({ frames := 0, cells := 0, slots := 0, locals := 0 }) D cA ad M [.ref (ad j)] ((f_Pr_classCount M j, M)) := by
  refine cs_entry (by decide) (Nat.le_of_ble_eq_true rfl) (fun p e s m below meth c A ls hC hr hlk _ hw hl => ?_)
  have hx := hC.1
  have hb := hC.2.1
  have hl : lv_has ls 1 [(0, .ref (ad j))] := hl
  generalize hF : f_Pr_classCount M j = F
  have hf := hF.symm
  unfold f_Pr_classCount at hf
  refine lv_aload_n hx hb d_Pr_classCount_0 rfl (lv_at hl 0 rfl) ?_
  refine gf_Pr_classCount hC hw hj wd_101 d_Pr_classCount_1 ?_
  exact cs_iret hC hw hr hlk (congrArg (fun z => (z, M)) hf) d_Pr_classCount_4
