theorem d_Ar_fill_0 : decode prog_12_method_103_code 0 = .ok (.iconst 0, 1) := by decide +kernel
theorem d_Ar_fill_1 : decode prog_12_method_103_code 1 = .ok (.istore_n 2, 1) := by decide +kernel
theorem d_Ar_fill_2 : decode prog_12_method_103_code 2 = .ok (.aload_n 0, 1) := by decide +kernel
theorem d_Ar_fill_3 : decode prog_12_method_103_code 3 = .ok (.arraylength, 1) := by decide +kernel
theorem d_Ar_fill_4 : decode prog_12_method_103_code 4 = .ok (.istore_n 3, 1) := by decide +kernel
theorem d_Ar_fill_5 : decode prog_12_method_103_code 5 = .ok (.iload_n 2, 1) := by decide +kernel
theorem d_Ar_fill_6 : decode prog_12_method_103_code 6 = .ok (.iload_n 3, 1) := by decide +kernel
theorem d_Ar_fill_7 : decode prog_12_method_103_code 7 = .ok (.if_icmp .ge 13, 3) := by decide +kernel
theorem d_Ar_fill_10 : decode prog_12_method_103_code 10 = .ok (.aload_n 0, 1) := by decide +kernel
theorem d_Ar_fill_11 : decode prog_12_method_103_code 11 = .ok (.iload_n 2, 1) := by decide +kernel
theorem d_Ar_fill_12 : decode prog_12_method_103_code 12 = .ok (.iload_n 1, 1) := by decide +kernel
theorem d_Ar_fill_13 : decode prog_12_method_103_code 13 = .ok (.iastore, 1) := by decide +kernel
theorem d_Ar_fill_14 : decode prog_12_method_103_code 14 = .ok (.iinc 2 1, 3) := by decide +kernel
theorem d_Ar_fill_17 : decode prog_12_method_103_code 17 = .ok (.goto (-12), 3) := by decide +kernel
theorem d_Ar_fill_20 : decode prog_12_method_103_code 20 = .ok (.return_, 1) := by decide +kernel
def f_Ar_fill_L5 : Nat → cs_Mem → Nat → Int32 → Int32 → Int32 → cs_Mem
  | 0, M, y0, y1, y2, y3 => M
  | fuel + 1, M, y0, y1, y2, y3 =>
    if y3 ≤ y2 then
      M
    else
      cs_bd (cs_up M y0 (upd (M y0) y2.toNatClampNeg y1)) fun (N4 : cs_Mem) =>
      cs_bd (y2 + 1) fun (z5 : Int32) =>
      f_Ar_fill_L5 fuel N4 y0 y1 z5 y3
def pre_Ar_fill_L5 : Nat → cs_Mem → Nat → Int32 → Int32 → Int32 → Prop
  | 0, _, _, _, _, _ => False
  | fuel + 1, M, y0, y1, y2, y3 =>
    (y3 ≤ y2 →
      True
    ) ∧ (¬ (y3 ≤ y2) →
      (vp_in y2 (cs_ln M y0)) ∧
      cs_bd (cs_up M y0 (upd (M y0) y2.toNatClampNeg y1)) fun (N4 : cs_Mem) =>
      cs_bd (y2 + 1) fun (z5 : Int32) =>
      pre_Ar_fill_L5 fuel N4 y0 y1 z5 y3
    )
def f_Ar_fill (M : cs_Mem) (x0 : Nat) (x1 : Int32) : cs_Mem :=
  cs_bd (nI (cs_ln M x0)) fun (z1 : Int32) =>
  f_Ar_fill_L5 (cs_ln M x0 + 1) M x0 x1 0 z1
def pre_Ar_fill (M : cs_Mem) (x0 : Nat) (x1 : Int32) : Prop :=
  cs_bd (nI (cs_ln M x0)) fun (z1 : Int32) =>
  pre_Ar_fill_L5 (cs_ln M x0 + 1) M x0 x1 0 z1
set_option maxHeartbeats 4000000 in
set_option maxRecDepth 100000 in
theorem w_Ar_fill_L5 {p : Program} {l : Launch} {e : Env} {s : State} {m : MethodId} {args : Array Value} {below : List Frame} {meth : Method} {c : Code} {D : va_G} {cA : Nat → ClassId} {A : Nat → Prop} {ad : Nat → Nat} {F : cs_Mem} (hC : cs_Ctx p s m args c prog_12_method_103_code 4 "java/util/Arrays" D cA A) (hr : meth.sig.returnType = none) (hlk : meth.locks = false) (fuel : Nat) : ∀ (M : cs_Mem) (y0 : Nat) (y1 : Int32) (y2 : Int32) (y3 : Int32) (H : Heap) (locs : List Loc) (ls : Array Slot), cs_Wd D cA ad M A s H locs → lv_has ls 4 [(0, .ref (ad y0)), (1, .int y1), (2, .int y2), (3, .int y3)] → cs_is 20 y0 → pre_Ar_fill_L5 fuel M y0 y1 y2 y3 → F = f_Ar_fill_L5 fuel M y0 y1 y2 y3 → W p l e ({ frames := 0, cells := 0, slots := 0, locals := 0 }) s m args below meth c H locs 0 0 (MQ below (cs_Qv D cA ad F A) args s 0 0 A) (F0 m 5 ls []) := by
  have hx := hC.1
  have hb := hC.2.1
  induction fuel with
  | zero =>
    intro M y0 y1 y2 y3 H locs ls hw hl g0 hp hf
    exact absurd hp (by simp [pre_Ar_fill_L5])
  | succ fuel ih =>
    intro M y0 y1 y2 y3 H locs ls hw hl g0 hp hf
    rw [f_Ar_fill_L5] at hf
    rw [pre_Ar_fill_L5] at hp
    refine lv_iload_n hx hb d_Ar_fill_5 rfl (lv_at hl 2 rfl) ?_
    refine lv_iload_n hx hb d_Ar_fill_6 rfl (lv_at hl 3 rfl) ?_
    refine lv_icmp_ge (tgt := 20) hx hb d_Ar_fill_7 (by decide) (fun c2 => ?_) (fun c2 => ?_)
    · have hp := hp.1 c2
      have hf := hf.trans (if_pos c2)
      exact cs_vret hC hw hr hlk hf d_Ar_fill_20
    · have hp := hp.2 c2
      have hf := hf.trans (if_neg c2)
      refine lv_aload_n hx hb d_Ar_fill_10 rfl (lv_at hl 0 rfl) ?_
      refine lv_iload_n hx hb d_Ar_fill_11 rfl (lv_at hl 2 rfl) ?_
      refine lv_iload_n hx hb d_Ar_fill_12 rfl (lv_at hl 1 rfl) ?_
      have o3 := hp.1
      have hp := hp.2
      refine cs_iast hC hw g0 o3 d_Ar_fill_13 (fun N4 H locs eN4 hw => ?_)
      have hp := cs_bdP eN4 hp
      have hf := cs_bdE eN4 hf
      obtain ⟨z5, ez5⟩ : ∃ y : Int32, y = y2 + 1 := ⟨_, rfl⟩
      have hp := cs_bdP ez5 hp
      have hf := cs_bdE ez5 hf
      refine lv_iinc (v := z5) (lv' := [(2, .int z5), (0, .ref (ad y0)), (1, .int y1), (3, .int y3)]) hx hb d_Ar_fill_14 hl (k := 2) rfl (by rw [ez5]; rfl) (by decide) rfl (fun ls hl => ?_)
      refine lv_goto (tgt := 5) hx hb d_Ar_fill_17 (by decide) ?_
      exact ih N4 y0 y1 z5 y3 _ _ ls hw (lv_sub hl [1, 2, 0, 3] rfl) g0 hp hf
set_option maxHeartbeats 4000000 in
set_option maxRecDepth 100000 in
theorem c_Ar_fill (l : Launch) (D : va_G) (cA : Nat → ClassId) (ad : Nat → Nat) (M : cs_Mem) (x0 : Nat) (h0 : cs_is 20 x0) (x1 : Int32) (hp : pre_Ar_fill M x0 x1) : cs_Cv l ⟨"java/util/Arrays", "fill", "([II)V"⟩ prog_12_method_103_code 4 none ({ frames := 0, cells := 0, slots := 0, locals := 0 }) D cA ad M [.ref (ad x0), .int x1] (f_Ar_fill M x0 x1) := by
  refine cs_entry (by decide) (Nat.le_of_ble_eq_true rfl) (fun p e s m below meth c A ls hC hr hlk _ hw hl => ?_)
  have hx := hC.1
  have hb := hC.2.1
  have hl : lv_has ls 4 [(0, .ref (ad x0)), (1, .int x1)] := hl
  generalize hF : f_Ar_fill M x0 x1 = F
  have hf := hF.symm
  unfold f_Ar_fill at hf
  unfold pre_Ar_fill at hp
  refine lv_iconst (v := 0) hx hb d_Ar_fill_0 (by decide) ?_
  refine lv_istore_n (lv' := [(2, .int 0), (0, .ref (ad x0)), (1, .int x1)]) hx hb d_Ar_fill_1 rfl hl (by decide) rfl (fun ls hl => ?_)
  refine lv_aload_n hx hb d_Ar_fill_2 rfl (lv_at hl 1 rfl) ?_
  refine cs_ialen hC hw h0 d_Ar_fill_3 ?_
  refine lv_topi (fun z1 ez1 => ?_)
  have hp := cs_bdP ez1 hp
  have hf := cs_bdE ez1 hf
  refine lv_istore_n (lv' := [(3, .int z1), (2, .int 0), (0, .ref (ad x0)), (1, .int x1)]) hx hb d_Ar_fill_4 rfl hl (by decide) rfl (fun ls hl => ?_)
  exact w_Ar_fill_L5 hC hr hlk (cs_ln M x0 + 1) M x0 x1 0 z1 _ _ ls hw (lv_sub hl [2, 3, 1, 0] rfl) h0 hp hf
theorem d_Sc_write_0 : decode prog_6_method_4_code 0 = .ok (.aload_n 0, 1) := by decide +kernel
theorem d_Sc_write_1 : decode prog_6_method_4_code 1 = .ok (.getfield 15, 3) := by decide +kernel
theorem d_Sc_write_4 : decode prog_6_method_4_code 4 = .ok (.iload_n 1, 1) := by decide +kernel
theorem d_Sc_write_5 : decode prog_6_method_4_code 5 = .ok (.iload_n 2, 1) := by decide +kernel
theorem d_Sc_write_6 : decode prog_6_method_4_code 6 = .ok (.iastore, 1) := by decide +kernel
theorem d_Sc_write_7 : decode prog_6_method_4_code 7 = .ok (.aload_n 0, 1) := by decide +kernel
theorem d_Sc_write_8 : decode prog_6_method_4_code 8 = .ok (.getfield 19, 3) := by decide +kernel
theorem d_Sc_write_11 : decode prog_6_method_4_code 11 = .ok (.iload_n 1, 1) := by decide +kernel
theorem d_Sc_write_12 : decode prog_6_method_4_code 12 = .ok (.iload_n 3, 1) := by decide +kernel
theorem d_Sc_write_13 : decode prog_6_method_4_code 13 = .ok (.iastore, 1) := by decide +kernel
theorem d_Sc_write_14 : decode prog_6_method_4_code 14 = .ok (.aload_n 0, 1) := by decide +kernel
theorem d_Sc_write_15 : decode prog_6_method_4_code 15 = .ok (.getfield 22, 3) := by decide +kernel
theorem d_Sc_write_18 : decode prog_6_method_4_code 18 = .ok (.iload_n 1, 1) := by decide +kernel
theorem d_Sc_write_19 : decode prog_6_method_4_code 19 = .ok (.iload 4, 2) := by decide +kernel
theorem d_Sc_write_21 : decode prog_6_method_4_code 21 = .ok (.iastore, 1) := by decide +kernel
theorem d_Sc_write_22 : decode prog_6_method_4_code 22 = .ok (.return_, 1) := by decide +kernel
def f_Sc_write (M : cs_Mem) (j : Nat) (x1 : Int32) (x2 : Int32) (x3 : Int32) (x4 : Int32) : cs_Mem :=
  cs_bd (cs_up M (j + 1) (upd (M (j + 1)) x1.toNatClampNeg x2)) fun (N2 : cs_Mem) =>
  cs_bd (cs_up N2 (j + 2) (upd (N2 (j + 2)) x1.toNatClampNeg x3)) fun (N4 : cs_Mem) =>
  cs_bd (cs_up N4 (j + 3) (upd (N4 (j + 3)) x1.toNatClampNeg x4)) fun (N6 : cs_Mem) =>
  N6
def pre_Sc_write (M : cs_Mem) (j : Nat) (x1 : Int32) (x2 : Int32) (x3 : Int32) (x4 : Int32) : Prop :=
  (vp_in x1 (cs_ln M (j + 1))) ∧
  cs_bd (cs_up M (j + 1) (upd (M (j + 1)) x1.toNatClampNeg x2)) fun (N2 : cs_Mem) =>
  (vp_in x1 (cs_ln N2 (j + 2))) ∧
  cs_bd (cs_up N2 (j + 2) (upd (N2 (j + 2)) x1.toNatClampNeg x3)) fun (N4 : cs_Mem) =>
  (vp_in x1 (cs_ln N4 (j + 3))) ∧
  True
set_option maxHeartbeats 4000000 in
set_option maxRecDepth 100000 in
theorem c_Sc_write (l : Launch) (D : va_G) (cA : Nat → ClassId) (ad : Nat → Nat) (M : cs_Mem) (j : Nat) (hj : cs_is 2 j) (x1 : Int32) (x2 : Int32) (x3 : Int32) (x4 : Int32) (hp : pre_Sc_write M j x1 x2 x3 x4) : cs_Cv l ⟨"ClassStarter$Script", "write", "(IIII)V"⟩ prog_6_method_4_code 5 none ({ frames := 0, cells := 0, slots := 0, locals := 0 }) D cA ad M [.ref (ad j), .int x1, .int x2, .int x3, .int x4] (f_Sc_write M j x1 x2 x3 x4) := by
  refine cs_entry (by decide) (Nat.le_of_ble_eq_true rfl) (fun p e s m below meth c A ls hC hr hlk _ hw hl => ?_)
  have hx := hC.1
  have hb := hC.2.1
  have hl : lv_has ls 5 [(0, .ref (ad j)), (1, .int x1), (2, .int x2), (3, .int x3), (4, .int x4)] := hl
  generalize hF : f_Sc_write M j x1 x2 x3 x4 = F
  have hf := hF.symm
  unfold f_Sc_write at hf
  unfold pre_Sc_write at hp
  refine lv_aload_n hx hb d_Sc_write_0 rfl (lv_at hl 0 rfl) ?_
  refine gf_Sc_actions hC hw hj wd_75 d_Sc_write_1 ?_
  refine lv_iload_n hx hb d_Sc_write_4 rfl (lv_at hl 1 rfl) ?_
  refine lv_iload_n hx hb d_Sc_write_5 rfl (lv_at hl 2 rfl) ?_
  have o1 := hp.1
  have hp := hp.2
  refine cs_iast hC hw (is_Sc1 hj) o1 d_Sc_write_6 (fun N2 H locs eN2 hw => ?_)
  have hp := cs_bdP eN2 hp
  have hf := cs_bdE eN2 hf
  refine lv_aload_n hx hb d_Sc_write_7 rfl (lv_at hl 0 rfl) ?_
  refine gf_Sc_firstOperands hC hw hj wd_76 d_Sc_write_8 ?_
  refine lv_iload_n hx hb d_Sc_write_11 rfl (lv_at hl 1 rfl) ?_
  refine lv_iload_n hx hb d_Sc_write_12 rfl (lv_at hl 3 rfl) ?_
  have o3 := hp.1
  have hp := hp.2
  refine cs_iast hC hw (is_Sc2 hj) o3 d_Sc_write_13 (fun N4 H locs eN4 hw => ?_)
  have hp := cs_bdP eN4 hp
  have hf := cs_bdE eN4 hf
  refine lv_aload_n hx hb d_Sc_write_14 rfl (lv_at hl 0 rfl) ?_
  refine gf_Sc_secondOperands hC hw hj wd_77 d_Sc_write_15 ?_
  refine lv_iload_n hx hb d_Sc_write_18 rfl (lv_at hl 1 rfl) ?_
  refine lv_iload hx hb d_Sc_write_19 (lv_at hl 4 rfl) ?_
  have o5 := hp.1
  have hp := hp.2
  refine cs_iast hC hw (is_Sc3 hj) o5 d_Sc_write_21 (fun N6 H locs eN6 hw => ?_)
  have hf := cs_bdE eN6 hf
  exact cs_vret hC hw hr hlk hf d_Sc_write_22
theorem d_Sc_addUseAhead_0 : decode prog_6_method_2_code 0 = .ok (.aload_n 0, 1) := by decide +kernel
theorem d_Sc_addUseAhead_1 : decode prog_6_method_2_code 1 = .ok (.getfield 25, 3) := by decide +kernel
theorem d_Sc_addUseAhead_4 : decode prog_6_method_2_code 4 = .ok (.aload_n 0, 1) := by decide +kernel
theorem d_Sc_addUseAhead_5 : decode prog_6_method_2_code 5 = .ok (.getfield 15, 3) := by decide +kernel
theorem d_Sc_addUseAhead_8 : decode prog_6_method_2_code 8 = .ok (.arraylength, 1) := by decide +kernel
theorem d_Sc_addUseAhead_9 : decode prog_6_method_2_code 9 = .ok (.if_icmp .lt 4, 3) := by decide +kernel
theorem d_Sc_addUseAhead_12 : decode prog_6_method_2_code 12 = .ok (.return_, 1) := by decide +kernel
theorem d_Sc_addUseAhead_13 : decode prog_6_method_2_code 13 = .ok (.aload_n 0, 1) := by decide +kernel
theorem d_Sc_addUseAhead_14 : decode prog_6_method_2_code 14 = .ok (.getfield 25, 3) := by decide +kernel
theorem d_Sc_addUseAhead_17 : decode prog_6_method_2_code 17 = .ok (.aload_n 0, 1) := by decide +kernel
theorem d_Sc_addUseAhead_18 : decode prog_6_method_2_code 18 = .ok (.getfield 28, 3) := by decide +kernel
theorem d_Sc_addUseAhead_21 : decode prog_6_method_2_code 21 = .ok (.isub, 1) := by decide +kernel
theorem d_Sc_addUseAhead_22 : decode prog_6_method_2_code 22 = .ok (.istore_n 2, 1) := by decide +kernel
theorem d_Sc_addUseAhead_23 : decode prog_6_method_2_code 23 = .ok (.aload_n 0, 1) := by decide +kernel
theorem d_Sc_addUseAhead_24 : decode prog_6_method_2_code 24 = .ok (.getfield 15, 3) := by decide +kernel
theorem d_Sc_addUseAhead_27 : decode prog_6_method_2_code 27 = .ok (.aload_n 0, 1) := by decide +kernel
theorem d_Sc_addUseAhead_28 : decode prog_6_method_2_code 28 = .ok (.getfield 28, 3) := by decide +kernel
theorem d_Sc_addUseAhead_31 : decode prog_6_method_2_code 31 = .ok (.aload_n 0, 1) := by decide +kernel
theorem d_Sc_addUseAhead_32 : decode prog_6_method_2_code 32 = .ok (.getfield 15, 3) := by decide +kernel
theorem d_Sc_addUseAhead_35 : decode prog_6_method_2_code 35 = .ok (.aload_n 0, 1) := by decide +kernel
theorem d_Sc_addUseAhead_36 : decode prog_6_method_2_code 36 = .ok (.getfield 28, 3) := by decide +kernel
theorem d_Sc_addUseAhead_39 : decode prog_6_method_2_code 39 = .ok (.iconst 1, 1) := by decide +kernel
theorem d_Sc_addUseAhead_40 : decode prog_6_method_2_code 40 = .ok (.iadd, 1) := by decide +kernel
theorem d_Sc_addUseAhead_41 : decode prog_6_method_2_code 41 = .ok (.iload_n 2, 1) := by decide +kernel
theorem d_Sc_addUseAhead_42 : decode prog_6_method_2_code 42 = .ok (.invokestatic 31, 3) := by decide +kernel
theorem d_Sc_addUseAhead_45 : decode prog_6_method_2_code 45 = .ok (.aload_n 0, 1) := by decide +kernel
theorem d_Sc_addUseAhead_46 : decode prog_6_method_2_code 46 = .ok (.getfield 19, 3) := by decide +kernel
theorem d_Sc_addUseAhead_49 : decode prog_6_method_2_code 49 = .ok (.aload_n 0, 1) := by decide +kernel
theorem d_Sc_addUseAhead_50 : decode prog_6_method_2_code 50 = .ok (.getfield 28, 3) := by decide +kernel
theorem d_Sc_addUseAhead_53 : decode prog_6_method_2_code 53 = .ok (.aload_n 0, 1) := by decide +kernel
theorem d_Sc_addUseAhead_54 : decode prog_6_method_2_code 54 = .ok (.getfield 19, 3) := by decide +kernel
theorem d_Sc_addUseAhead_57 : decode prog_6_method_2_code 57 = .ok (.aload_n 0, 1) := by decide +kernel
theorem d_Sc_addUseAhead_58 : decode prog_6_method_2_code 58 = .ok (.getfield 28, 3) := by decide +kernel
theorem d_Sc_addUseAhead_61 : decode prog_6_method_2_code 61 = .ok (.iconst 1, 1) := by decide +kernel
theorem d_Sc_addUseAhead_62 : decode prog_6_method_2_code 62 = .ok (.iadd, 1) := by decide +kernel
theorem d_Sc_addUseAhead_63 : decode prog_6_method_2_code 63 = .ok (.iload_n 2, 1) := by decide +kernel
theorem d_Sc_addUseAhead_64 : decode prog_6_method_2_code 64 = .ok (.invokestatic 31, 3) := by decide +kernel
theorem d_Sc_addUseAhead_67 : decode prog_6_method_2_code 67 = .ok (.aload_n 0, 1) := by decide +kernel
theorem d_Sc_addUseAhead_68 : decode prog_6_method_2_code 68 = .ok (.getfield 22, 3) := by decide +kernel
theorem d_Sc_addUseAhead_71 : decode prog_6_method_2_code 71 = .ok (.aload_n 0, 1) := by decide +kernel
theorem d_Sc_addUseAhead_72 : decode prog_6_method_2_code 72 = .ok (.getfield 28, 3) := by decide +kernel
theorem d_Sc_addUseAhead_75 : decode prog_6_method_2_code 75 = .ok (.aload_n 0, 1) := by decide +kernel
theorem d_Sc_addUseAhead_76 : decode prog_6_method_2_code 76 = .ok (.getfield 22, 3) := by decide +kernel
theorem d_Sc_addUseAhead_79 : decode prog_6_method_2_code 79 = .ok (.aload_n 0, 1) := by decide +kernel
theorem d_Sc_addUseAhead_80 : decode prog_6_method_2_code 80 = .ok (.getfield 28, 3) := by decide +kernel
theorem d_Sc_addUseAhead_83 : decode prog_6_method_2_code 83 = .ok (.iconst 1, 1) := by decide +kernel
theorem d_Sc_addUseAhead_84 : decode prog_6_method_2_code 84 = .ok (.iadd, 1) := by decide +kernel
theorem d_Sc_addUseAhead_85 : decode prog_6_method_2_code 85 = .ok (.iload_n 2, 1) := by decide +kernel
theorem d_Sc_addUseAhead_86 : decode prog_6_method_2_code 86 = .ok (.invokestatic 31, 3) := by decide +kernel
theorem d_Sc_addUseAhead_89 : decode prog_6_method_2_code 89 = .ok (.aload_n 0, 1) := by decide +kernel
theorem d_Sc_addUseAhead_90 : decode prog_6_method_2_code 90 = .ok (.dup, 1) := by decide +kernel
theorem d_Sc_addUseAhead_91 : decode prog_6_method_2_code 91 = .ok (.getfield 25, 3) := by decide +kernel
theorem d_Sc_addUseAhead_94 : decode prog_6_method_2_code 94 = .ok (.iconst 1, 1) := by decide +kernel
theorem d_Sc_addUseAhead_95 : decode prog_6_method_2_code 95 = .ok (.iadd, 1) := by decide +kernel
theorem d_Sc_addUseAhead_96 : decode prog_6_method_2_code 96 = .ok (.putfield 25, 3) := by decide +kernel
theorem d_Sc_addUseAhead_99 : decode prog_6_method_2_code 99 = .ok (.aload_n 0, 1) := by decide +kernel
theorem d_Sc_addUseAhead_100 : decode prog_6_method_2_code 100 = .ok (.aload_n 0, 1) := by decide +kernel
theorem d_Sc_addUseAhead_101 : decode prog_6_method_2_code 101 = .ok (.getfield 28, 3) := by decide +kernel
theorem d_Sc_addUseAhead_104 : decode prog_6_method_2_code 104 = .ok (.iconst 0, 1) := by decide +kernel
theorem d_Sc_addUseAhead_105 : decode prog_6_method_2_code 105 = .ok (.iload_n 1, 1) := by decide +kernel
theorem d_Sc_addUseAhead_106 : decode prog_6_method_2_code 106 = .ok (.iconst 0, 1) := by decide +kernel
theorem d_Sc_addUseAhead_107 : decode prog_6_method_2_code 107 = .ok (.invokevirtual 37, 3) := by decide +kernel
theorem d_Sc_addUseAhead_110 : decode prog_6_method_2_code 110 = .ok (.aload_n 0, 1) := by decide +kernel
theorem d_Sc_addUseAhead_111 : decode prog_6_method_2_code 111 = .ok (.dup, 1) := by decide +kernel
theorem d_Sc_addUseAhead_112 : decode prog_6_method_2_code 112 = .ok (.getfield 28, 3) := by decide +kernel
theorem d_Sc_addUseAhead_115 : decode prog_6_method_2_code 115 = .ok (.iconst 1, 1) := by decide +kernel
theorem d_Sc_addUseAhead_116 : decode prog_6_method_2_code 116 = .ok (.iadd, 1) := by decide +kernel
theorem d_Sc_addUseAhead_117 : decode prog_6_method_2_code 117 = .ok (.putfield 28, 3) := by decide +kernel
theorem d_Sc_addUseAhead_120 : decode prog_6_method_2_code 120 = .ok (.return_, 1) := by decide +kernel
def f_Sc_addUseAhead (M : cs_Mem) (j : Nat) (x1 : Int32) : cs_Mem :=
  if (M j 5) < (nI (cs_ln M (j + 1))) then
    cs_bd ((M j 5) - (M j 4)) fun (z2 : Int32) =>
    cs_bd (cs_up M (j + 1) (va_cpy (M (j + 1)) (M (j + 1)) (M j 4).toNatClampNeg ((M j 4) + 1).toNatClampNeg z2.toNatClampNeg)) fun (N8 : cs_Mem) =>
    cs_bd (cs_up N8 (j + 2) (va_cpy (N8 (j + 2)) (N8 (j + 2)) (N8 j 4).toNatClampNeg ((N8 j 4) + 1).toNatClampNeg z2.toNatClampNeg)) fun (N14 : cs_Mem) =>
    cs_bd (cs_up N14 (j + 3) (va_cpy (N14 (j + 3)) (N14 (j + 3)) (N14 j 4).toNatClampNeg ((N14 j 4) + 1).toNatClampNeg z2.toNatClampNeg)) fun (N20 : cs_Mem) =>
    cs_bd (cs_up N20 j (upd (N20 j) 5 ((N20 j 5) + 1))) fun (N21 : cs_Mem) =>
    cs_bd (f_Sc_write N21 j (N21 j 4) 0 x1 0) fun (u23 : cs_Mem) =>
    cs_bd (cs_up u23 j (upd (u23 j) 4 ((u23 j 4) + 1))) fun (N24 : cs_Mem) =>
    N24
  else
    M
def pre_Sc_addUseAhead (M : cs_Mem) (j : Nat) (x1 : Int32) : Prop :=
  ((M j 5) < (nI (cs_ln M (j + 1))) →
    cs_bd ((M j 5) - (M j 4)) fun (z2 : Int32) =>
    (¬ ((M j 4) : Int32) < 0) ∧
    (¬ (((M j 4) + 1) : Int32) < 0) ∧
    (¬ (z2 : Int32) < 0) ∧
    ((M j 4).toNatClampNeg + z2.toNatClampNeg ≤ cs_ln M (j + 1)) ∧
    (((M j 4) + 1).toNatClampNeg + z2.toNatClampNeg ≤ cs_ln M (j + 1)) ∧
    cs_bd (cs_up M (j + 1) (va_cpy (M (j + 1)) (M (j + 1)) (M j 4).toNatClampNeg ((M j 4) + 1).toNatClampNeg z2.toNatClampNeg)) fun (N8 : cs_Mem) =>
    (¬ ((N8 j 4) : Int32) < 0) ∧
    (¬ (((N8 j 4) + 1) : Int32) < 0) ∧
    (¬ (z2 : Int32) < 0) ∧
    ((N8 j 4).toNatClampNeg + z2.toNatClampNeg ≤ cs_ln N8 (j + 2)) ∧
    (((N8 j 4) + 1).toNatClampNeg + z2.toNatClampNeg ≤ cs_ln N8 (j + 2)) ∧
    cs_bd (cs_up N8 (j + 2) (va_cpy (N8 (j + 2)) (N8 (j + 2)) (N8 j 4).toNatClampNeg ((N8 j 4) + 1).toNatClampNeg z2.toNatClampNeg)) fun (N14 : cs_Mem) =>
    (¬ ((N14 j 4) : Int32) < 0) ∧
    (¬ (((N14 j 4) + 1) : Int32) < 0) ∧
    (¬ (z2 : Int32) < 0) ∧
    ((N14 j 4).toNatClampNeg + z2.toNatClampNeg ≤ cs_ln N14 (j + 3)) ∧
    (((N14 j 4) + 1).toNatClampNeg + z2.toNatClampNeg ≤ cs_ln N14 (j + 3)) ∧
    cs_bd (cs_up N14 (j + 3) (va_cpy (N14 (j + 3)) (N14 (j + 3)) (N14 j 4).toNatClampNeg ((N14 j 4) + 1).toNatClampNeg z2.toNatClampNeg)) fun (N20 : cs_Mem) =>
    cs_bd (cs_up N20 j (upd (N20 j) 5 ((N20 j 5) + 1))) fun (N21 : cs_Mem) =>
    (pre_Sc_write N21 j (N21 j 4) 0 x1 0) ∧
    True
  ) ∧ (¬ ((M j 5) < (nI (cs_ln M (j + 1)))) →
    True
  )
set_option maxHeartbeats 4000000 in
set_option maxRecDepth 100000 in
theorem c_Sc_addUseAhead (l : Launch) (D : va_G) (cA : Nat → ClassId) (ad : Nat → Nat) (M : cs_Mem) (j : Nat) (hj : cs_is 2 j) (x1 : Int32) (hp : pre_Sc_addUseAhead M j x1) : cs_Cv l ⟨"ClassStarter$Script", "addUseAhead", "(I)V"⟩ prog_6_method_2_code 3 none ({ frames := 1, cells := 0, slots := 0, locals := 40 }) D cA ad M [.ref (ad j), .int x1] (f_Sc_addUseAhead M j x1) := by
  refine cs_entry (by decide) (Nat.le_of_ble_eq_true rfl) (fun p e s m below meth c A ls hC hr hlk _ hw hl => ?_)
  have hx := hC.1
  have hb := hC.2.1
  have hl : lv_has ls 3 [(0, .ref (ad j)), (1, .int x1)] := hl
  generalize hF : f_Sc_addUseAhead M j x1 = F
  have hf := hF.symm
  unfold f_Sc_addUseAhead at hf
  unfold pre_Sc_addUseAhead at hp
  refine lv_aload_n hx hb d_Sc_addUseAhead_0 rfl (lv_at hl 0 rfl) ?_
  refine gf_Sc_length hC hw hj wd_79 d_Sc_addUseAhead_1 ?_
  refine lv_aload_n hx hb d_Sc_addUseAhead_4 rfl (lv_at hl 0 rfl) ?_
  refine gf_Sc_actions hC hw hj wd_75 d_Sc_addUseAhead_5 ?_
  refine cs_ialen hC hw (is_Sc1 hj) d_Sc_addUseAhead_8 ?_
  refine lv_icmp_lt (tgt := 13) hx hb d_Sc_addUseAhead_9 (by decide) (fun c1 => ?_) (fun c1 => ?_)
  · have hp := hp.1 c1
    have hf := hf.trans (if_pos c1)
    refine lv_aload_n hx hb d_Sc_addUseAhead_13 rfl (lv_at hl 0 rfl) ?_
    refine gf_Sc_length hC hw hj wd_79 d_Sc_addUseAhead_14 ?_
    refine lv_aload_n hx hb d_Sc_addUseAhead_17 rfl (lv_at hl 0 rfl) ?_
    refine gf_Sc_usesAhead hC hw hj wd_78 d_Sc_addUseAhead_18 ?_
    refine lv_isub hx hb d_Sc_addUseAhead_21 ?_
    refine lv_topi (fun z2 ez2 => ?_)
    have hp := cs_bdP ez2 hp
    have hf := cs_bdE ez2 hf
    refine lv_istore_n (lv' := [(2, .int z2), (0, .ref (ad j)), (1, .int x1)]) hx hb d_Sc_addUseAhead_22 rfl hl (by decide) rfl (fun ls hl => ?_)
    refine lv_aload_n hx hb d_Sc_addUseAhead_23 rfl (lv_at hl 1 rfl) ?_
    refine gf_Sc_actions hC hw hj wd_75 d_Sc_addUseAhead_24 ?_
    refine lv_aload_n hx hb d_Sc_addUseAhead_27 rfl (lv_at hl 1 rfl) ?_
    refine gf_Sc_usesAhead hC hw hj wd_78 d_Sc_addUseAhead_28 ?_
    refine lv_aload_n hx hb d_Sc_addUseAhead_31 rfl (lv_at hl 1 rfl) ?_
    refine gf_Sc_actions hC hw hj wd_75 d_Sc_addUseAhead_32 ?_
    refine lv_aload_n hx hb d_Sc_addUseAhead_35 rfl (lv_at hl 1 rfl) ?_
    refine gf_Sc_usesAhead hC hw hj wd_78 d_Sc_addUseAhead_36 ?_
    refine lv_iconst (v := 1) hx hb d_Sc_addUseAhead_39 (by decide) ?_
    refine lv_iadd hx hb d_Sc_addUseAhead_40 ?_
    refine lv_iload_n hx hb d_Sc_addUseAhead_41 rfl (lv_at hl 0 rfl) ?_
    have o3 := hp.1
    have hp := hp.2
    have o4 := hp.1
    have hp := hp.2
    have o5 := hp.1
    have hp := hp.2
    have o6 := hp.1
    have hp := hp.2
    have o7 := hp.1
    have hp := hp.2
    refine cs_icpy hC hw hl.1 (is_Sc1 hj) (is_Sc1 hj) wd_207 cs_acN cs_acS cs_acI o3 o4 o5 o6 o7 (Nat.le_of_ble_eq_true rfl) (Nat.le_of_ble_eq_true rfl) d_Sc_addUseAhead_42 (fun N8 H locs eN8 hw => ?_)
    have hp := cs_bdP eN8 hp
    have hf := cs_bdE eN8 hf
    refine lv_aload_n hx hb d_Sc_addUseAhead_45 rfl (lv_at hl 1 rfl) ?_
    refine gf_Sc_firstOperands hC hw hj wd_76 d_Sc_addUseAhead_46 ?_
    refine lv_aload_n hx hb d_Sc_addUseAhead_49 rfl (lv_at hl 1 rfl) ?_
    refine gf_Sc_usesAhead hC hw hj wd_78 d_Sc_addUseAhead_50 ?_
    refine lv_aload_n hx hb d_Sc_addUseAhead_53 rfl (lv_at hl 1 rfl) ?_
    refine gf_Sc_firstOperands hC hw hj wd_76 d_Sc_addUseAhead_54 ?_
    refine lv_aload_n hx hb d_Sc_addUseAhead_57 rfl (lv_at hl 1 rfl) ?_
    refine gf_Sc_usesAhead hC hw hj wd_78 d_Sc_addUseAhead_58 ?_
    refine lv_iconst (v := 1) hx hb d_Sc_addUseAhead_61 (by decide) ?_
    refine lv_iadd hx hb d_Sc_addUseAhead_62 ?_
    refine lv_iload_n hx hb d_Sc_addUseAhead_63 rfl (lv_at hl 0 rfl) ?_
    have o9 := hp.1
    have hp := hp.2
    have o10 := hp.1
    have hp := hp.2
    have o11 := hp.1
    have hp := hp.2
    have o12 := hp.1
    have hp := hp.2
    have o13 := hp.1
    have hp := hp.2
    refine cs_icpy hC hw hl.1 (is_Sc2 hj) (is_Sc2 hj) wd_207 cs_acN cs_acS cs_acI o9 o10 o11 o12 o13 (Nat.le_of_ble_eq_true rfl) (Nat.le_of_ble_eq_true rfl) d_Sc_addUseAhead_64 (fun N14 H locs eN14 hw => ?_)
    have hp := cs_bdP eN14 hp
    have hf := cs_bdE eN14 hf
    refine lv_aload_n hx hb d_Sc_addUseAhead_67 rfl (lv_at hl 1 rfl) ?_
    refine gf_Sc_secondOperands hC hw hj wd_77 d_Sc_addUseAhead_68 ?_
    refine lv_aload_n hx hb d_Sc_addUseAhead_71 rfl (lv_at hl 1 rfl) ?_
    refine gf_Sc_usesAhead hC hw hj wd_78 d_Sc_addUseAhead_72 ?_
    refine lv_aload_n hx hb d_Sc_addUseAhead_75 rfl (lv_at hl 1 rfl) ?_
    refine gf_Sc_secondOperands hC hw hj wd_77 d_Sc_addUseAhead_76 ?_
    refine lv_aload_n hx hb d_Sc_addUseAhead_79 rfl (lv_at hl 1 rfl) ?_
    refine gf_Sc_usesAhead hC hw hj wd_78 d_Sc_addUseAhead_80 ?_
    refine lv_iconst (v := 1) hx hb d_Sc_addUseAhead_83 (by decide) ?_
    refine lv_iadd hx hb d_Sc_addUseAhead_84 ?_
    refine lv_iload_n hx hb d_Sc_addUseAhead_85 rfl (lv_at hl 0 rfl) ?_
    have o15 := hp.1
    have hp := hp.2
    have o16 := hp.1
    have hp := hp.2
    have o17 := hp.1
    have hp := hp.2
    have o18 := hp.1
    have hp := hp.2
    have o19 := hp.1
    have hp := hp.2
    refine cs_icpy hC hw hl.1 (is_Sc3 hj) (is_Sc3 hj) wd_207 cs_acN cs_acS cs_acI o15 o16 o17 o18 o19 (Nat.le_of_ble_eq_true rfl) (Nat.le_of_ble_eq_true rfl) d_Sc_addUseAhead_86 (fun N20 H locs eN20 hw => ?_)
    have hp := cs_bdP eN20 hp
    have hf := cs_bdE eN20 hf
    refine lv_aload_n hx hb d_Sc_addUseAhead_89 rfl (lv_at hl 1 rfl) ?_
    refine lv_dup hx hb d_Sc_addUseAhead_90 rfl ?_
    refine gf_Sc_length hC hw hj wd_79 d_Sc_addUseAhead_91 ?_
    refine lv_iconst (v := 1) hx hb d_Sc_addUseAhead_94 (by decide) ?_
    refine lv_iadd hx hb d_Sc_addUseAhead_95 ?_
    refine pf_Sc_length hC hw hj wd_79 d_Sc_addUseAhead_96 (fun N21 H locs eN21 hw => ?_)
    have hp := cs_bdP eN21 hp
    have hf := cs_bdE eN21 hf
    refine lv_aload_n hx hb d_Sc_addUseAhead_99 rfl (lv_at hl 1 rfl) ?_
    refine lv_aload_n hx hb d_Sc_addUseAhead_100 rfl (lv_at hl 1 rfl) ?_
    refine gf_Sc_usesAhead hC hw hj wd_78 d_Sc_addUseAhead_101 ?_
    refine lv_iconst (v := 0) hx hb d_Sc_addUseAhead_104 (by decide) ?_
    refine lv_iload_n hx hb d_Sc_addUseAhead_105 rfl (lv_at hl 2 rfl) ?_
    refine lv_iconst (v := 0) hx hb d_Sc_addUseAhead_106 (by decide) ?_
    have o22 := hp.1
    have hp := hp.2
    refine cs_ret_v hC hw (cs_runV (As := [.int (N21 j 4), .int 0, .int x1, .int 0]) (rest := []) hC hw hj.2 (ci := 2) rfl rfl (cs_sg_is hj) (c_Sc_write l D cA ad N21 j hj (N21 j 4) 0 x1 0 o22 _) rfl rfl cw_Sc_37 ⟨Nat.le_of_ble_eq_true rfl, Nat.le_of_ble_eq_true rfl⟩ hl.1 rfl rfl (Nat.le_of_ble_eq_true rfl) d_Sc_addUseAhead_107 ⟨Nat.zero_le _, Nat.zero_le _⟩) (fun u23 H locs eu23 hw => ?_)
    have hf := cs_bdE eu23 hf
    refine lv_aload_n hx hb d_Sc_addUseAhead_110 rfl (lv_at hl 1 rfl) ?_
    refine lv_dup hx hb d_Sc_addUseAhead_111 rfl ?_
    refine gf_Sc_usesAhead hC hw hj wd_78 d_Sc_addUseAhead_112 ?_
    refine lv_iconst (v := 1) hx hb d_Sc_addUseAhead_115 (by decide) ?_
    refine lv_iadd hx hb d_Sc_addUseAhead_116 ?_
    refine pf_Sc_usesAhead hC hw hj wd_78 d_Sc_addUseAhead_117 (fun N24 H locs eN24 hw => ?_)
    have hf := cs_bdE eN24 hf
    exact cs_vret hC hw hr hlk hf d_Sc_addUseAhead_120
  · have hp := hp.2 c1
    have hf := hf.trans (if_neg c1)
    exact cs_vret hC hw hr hlk hf d_Sc_addUseAhead_12
theorem d_Sc_addLast_0 : decode prog_6_method_3_code 0 = .ok (.aload_n 0, 1) := by decide +kernel
theorem d_Sc_addLast_1 : decode prog_6_method_3_code 1 = .ok (.getfield 25, 3) := by decide +kernel
theorem d_Sc_addLast_4 : decode prog_6_method_3_code 4 = .ok (.aload_n 0, 1) := by decide +kernel
theorem d_Sc_addLast_5 : decode prog_6_method_3_code 5 = .ok (.getfield 28, 3) := by decide +kernel
theorem d_Sc_addLast_8 : decode prog_6_method_3_code 8 = .ok (.isub, 1) := by decide +kernel
theorem d_Sc_addLast_9 : decode prog_6_method_3_code 9 = .ok (.aload_n 0, 1) := by decide +kernel
theorem d_Sc_addLast_10 : decode prog_6_method_3_code 10 = .ok (.getfield 9, 3) := by decide +kernel
theorem d_Sc_addLast_13 : decode prog_6_method_3_code 13 = .ok (.if_icmp .lt 6, 3) := by decide +kernel
theorem d_Sc_addLast_16 : decode prog_6_method_3_code 16 = .ok (.bipush (-2), 2) := by decide +kernel
theorem d_Sc_addLast_18 : decode prog_6_method_3_code 18 = .ok (.ireturn, 1) := by decide +kernel
theorem d_Sc_addLast_19 : decode prog_6_method_3_code 19 = .ok (.aload_n 0, 1) := by decide +kernel
theorem d_Sc_addLast_20 : decode prog_6_method_3_code 20 = .ok (.aload_n 0, 1) := by decide +kernel
theorem d_Sc_addLast_21 : decode prog_6_method_3_code 21 = .ok (.getfield 25, 3) := by decide +kernel
theorem d_Sc_addLast_24 : decode prog_6_method_3_code 24 = .ok (.iload_n 1, 1) := by decide +kernel
theorem d_Sc_addLast_25 : decode prog_6_method_3_code 25 = .ok (.iload_n 2, 1) := by decide +kernel
theorem d_Sc_addLast_26 : decode prog_6_method_3_code 26 = .ok (.iload_n 3, 1) := by decide +kernel
theorem d_Sc_addLast_27 : decode prog_6_method_3_code 27 = .ok (.invokevirtual 37, 3) := by decide +kernel
theorem d_Sc_addLast_30 : decode prog_6_method_3_code 30 = .ok (.aload_n 0, 1) := by decide +kernel
theorem d_Sc_addLast_31 : decode prog_6_method_3_code 31 = .ok (.dup, 1) := by decide +kernel
theorem d_Sc_addLast_32 : decode prog_6_method_3_code 32 = .ok (.getfield 25, 3) := by decide +kernel
theorem d_Sc_addLast_35 : decode prog_6_method_3_code 35 = .ok (.iconst 1, 1) := by decide +kernel
theorem d_Sc_addLast_36 : decode prog_6_method_3_code 36 = .ok (.iadd, 1) := by decide +kernel
theorem d_Sc_addLast_37 : decode prog_6_method_3_code 37 = .ok (.putfield 25, 3) := by decide +kernel
theorem d_Sc_addLast_40 : decode prog_6_method_3_code 40 = .ok (.aload_n 0, 1) := by decide +kernel
theorem d_Sc_addLast_41 : decode prog_6_method_3_code 41 = .ok (.getfield 25, 3) := by decide +kernel
theorem d_Sc_addLast_44 : decode prog_6_method_3_code 44 = .ok (.aload_n 0, 1) := by decide +kernel
theorem d_Sc_addLast_45 : decode prog_6_method_3_code 45 = .ok (.getfield 28, 3) := by decide +kernel
theorem d_Sc_addLast_48 : decode prog_6_method_3_code 48 = .ok (.isub, 1) := by decide +kernel
theorem d_Sc_addLast_49 : decode prog_6_method_3_code 49 = .ok (.ireturn, 1) := by decide +kernel
def f_Sc_addLast (M : cs_Mem) (j : Nat) (x1 : Int32) (x2 : Int32) (x3 : Int32) : Int32 × cs_Mem :=
  if ((M j 5) - (M j 4)) < (M j 0) then
    cs_bd (f_Sc_write M j (M j 5) x1 x2 x3) fun (u3 : cs_Mem) =>
    cs_bd (cs_up u3 j (upd (u3 j) 5 ((u3 j 5) + 1))) fun (N4 : cs_Mem) =>
    ((N4 j 5) - (N4 j 4), N4)
  else
    ((-2), M)
def pre_Sc_addLast (M : cs_Mem) (j : Nat) (x1 : Int32) (x2 : Int32) (x3 : Int32) : Prop :=
  (((M j 5) - (M j 4)) < (M j 0) →
    (pre_Sc_write M j (M j 5) x1 x2 x3) ∧
    True
  ) ∧ (¬ (((M j 5) - (M j 4)) < (M j 0)) →
    True
  )
set_option maxHeartbeats 4000000 in
set_option maxRecDepth 100000 in
theorem c_Sc_addLast (l : Launch) (D : va_G) (cA : Nat → ClassId) (ad : Nat → Nat) (M : cs_Mem) (j : Nat) (hj : cs_is 2 j) (x1 : Int32) (x2 : Int32) (x3 : Int32) (hp : pre_Sc_addLast M j x1 x2 x3) : cs_Ci l ⟨"ClassStarter$Script", "addLast", "(III)I"⟩ prog_6_method_3_code 4 (some .int) ({ frames := 1, cells := 0, slots := 0, locals := 24 }) D cA ad M [.ref (ad j), .int x1, .int x2, .int x3] (f_Sc_addLast M j x1 x2 x3) := by
  refine cs_entry (by decide) (Nat.le_of_ble_eq_true rfl) (fun p e s m below meth c A ls hC hr hlk _ hw hl => ?_)
  have hx := hC.1
  have hb := hC.2.1
  have hl : lv_has ls 4 [(0, .ref (ad j)), (1, .int x1), (2, .int x2), (3, .int x3)] := hl
  generalize hF : f_Sc_addLast M j x1 x2 x3 = F
  have hf := hF.symm
  unfold f_Sc_addLast at hf
  unfold pre_Sc_addLast at hp
  refine lv_aload_n hx hb d_Sc_addLast_0 rfl (lv_at hl 0 rfl) ?_
  refine gf_Sc_length hC hw hj wd_79 d_Sc_addLast_1 ?_
  refine lv_aload_n hx hb d_Sc_addLast_4 rfl (lv_at hl 0 rfl) ?_
  refine gf_Sc_usesAhead hC hw hj wd_78 d_Sc_addLast_5 ?_
  refine lv_isub hx hb d_Sc_addLast_8 ?_
  refine lv_aload_n hx hb d_Sc_addLast_9 rfl (lv_at hl 0 rfl) ?_
  refine gf_Sc_mostActions hC hw hj wd_74 d_Sc_addLast_10 ?_
  refine lv_icmp_lt (tgt := 19) hx hb d_Sc_addLast_13 (by decide) (fun c1 => ?_) (fun c1 => ?_)
  · have hp := hp.1 c1
    have hf := hf.trans (if_pos c1)
    refine lv_aload_n hx hb d_Sc_addLast_19 rfl (lv_at hl 0 rfl) ?_
    refine lv_aload_n hx hb d_Sc_addLast_20 rfl (lv_at hl 0 rfl) ?_
    refine gf_Sc_length hC hw hj wd_79 d_Sc_addLast_21 ?_
    refine lv_iload_n hx hb d_Sc_addLast_24 rfl (lv_at hl 1 rfl) ?_
    refine lv_iload_n hx hb d_Sc_addLast_25 rfl (lv_at hl 2 rfl) ?_
    refine lv_iload_n hx hb d_Sc_addLast_26 rfl (lv_at hl 3 rfl) ?_
    have o2 := hp.1
    have hp := hp.2
    refine cs_ret_v hC hw (cs_runV (As := [.int (M j 5), .int x1, .int x2, .int x3]) (rest := []) hC hw hj.2 (ci := 2) rfl rfl (cs_sg_is hj) (c_Sc_write l D cA ad M j hj (M j 5) x1 x2 x3 o2 _) rfl rfl cw_Sc_37 ⟨Nat.le_of_ble_eq_true rfl, Nat.le_of_ble_eq_true rfl⟩ hl.1 rfl rfl (Nat.le_of_ble_eq_true rfl) d_Sc_addLast_27 ⟨Nat.zero_le _, Nat.zero_le _⟩) (fun u3 H locs eu3 hw => ?_)
    have hf := cs_bdE eu3 hf
    refine lv_aload_n hx hb d_Sc_addLast_30 rfl (lv_at hl 0 rfl) ?_
    refine lv_dup hx hb d_Sc_addLast_31 rfl ?_
    refine gf_Sc_length hC hw hj wd_79 d_Sc_addLast_32 ?_
    refine lv_iconst (v := 1) hx hb d_Sc_addLast_35 (by decide) ?_
    refine lv_iadd hx hb d_Sc_addLast_36 ?_
    refine pf_Sc_length hC hw hj wd_79 d_Sc_addLast_37 (fun N4 H locs eN4 hw => ?_)
    have hf := cs_bdE eN4 hf
    refine lv_aload_n hx hb d_Sc_addLast_40 rfl (lv_at hl 0 rfl) ?_
    refine gf_Sc_length hC hw hj wd_79 d_Sc_addLast_41 ?_
    refine lv_aload_n hx hb d_Sc_addLast_44 rfl (lv_at hl 0 rfl) ?_
    refine gf_Sc_usesAhead hC hw hj wd_78 d_Sc_addLast_45 ?_
    refine lv_isub hx hb d_Sc_addLast_48 ?_
    exact cs_iret hC hw hr hlk hf d_Sc_addLast_49
  · have hp := hp.2 c1
    have hf := hf.trans (if_neg c1)
    refine lv_bipush (v := (-2)) hx hb d_Sc_addLast_16 (by decide) ?_
    exact cs_iret hC hw hr hlk hf d_Sc_addLast_18
theorem d_X_isThread_0 : decode prog_1_method_18_code 0 = .ok (.iload_n 0, 1) := by decide +kernel
theorem d_X_isThread_1 : decode prog_1_method_18_code 1 = .ok (.ifCond .lt 12, 3) := by decide +kernel
theorem d_X_isThread_4 : decode prog_1_method_18_code 4 = .ok (.iload_n 0, 1) := by decide +kernel
theorem d_X_isThread_5 : decode prog_1_method_18_code 5 = .ok (.iconst 3, 1) := by decide +kernel
theorem d_X_isThread_6 : decode prog_1_method_18_code 6 = .ok (.if_icmp .ge 7, 3) := by decide +kernel
theorem d_X_isThread_9 : decode prog_1_method_18_code 9 = .ok (.iconst 1, 1) := by decide +kernel
theorem d_X_isThread_10 : decode prog_1_method_18_code 10 = .ok (.goto 4, 3) := by decide +kernel
theorem d_X_isThread_13 : decode prog_1_method_18_code 13 = .ok (.iconst 0, 1) := by decide +kernel
theorem d_X_isThread_14 : decode prog_1_method_18_code 14 = .ok (.ireturn, 1) := by decide +kernel
def f_X_isThread (M : cs_Mem) (x0 : Int32) : Int32 :=
  if x0 < 0 then
    0
  else
    if 3 ≤ x0 then
      0
    else
      1
set_option maxHeartbeats 4000000 in
set_option maxRecDepth 100000 in
theorem c_X_isThread (l : Launch) (D : va_G) (cA : Nat → ClassId) (ad : Nat → Nat) (M : cs_Mem) (x0 : Int32) : cs_Ci l ⟨"ClassStarter", "isThread", "(I)Z"⟩ prog_1_method_18_code 1 (some .boolean) ({ frames := 0, cells := 0, slots := 0, locals := 0 }) D cA ad M [.int x0] ((f_X_isThread M x0, M)) := by
  refine cs_entry (by decide) (Nat.le_of_ble_eq_true rfl) (fun p e s m below meth c A ls hC hr hlk _ hw hl => ?_)
  have hx := hC.1
  have hb := hC.2.1
  have hl : lv_has ls 1 [(0, .int x0)] := hl
  generalize hF : f_X_isThread M x0 = F
  have hf := hF.symm
  unfold f_X_isThread at hf
  refine lv_iload_n hx hb d_X_isThread_0 rfl (lv_at hl 0 rfl) ?_
  refine lv_if_lt (tgt := 13) hx hb d_X_isThread_1 (by decide) (fun c1 => ?_) (fun c1 => ?_)
  · have hf := hf.trans (if_pos c1)
    refine lv_iconst (v := 0) hx hb d_X_isThread_13 (by decide) ?_
    exact cs_zret hC hw hr hlk (Or.inl rfl) (congrArg (fun z => (z, M)) hf) d_X_isThread_14
  · have hf := hf.trans (if_neg c1)
    refine lv_iload_n hx hb d_X_isThread_4 rfl (lv_at hl 0 rfl) ?_
    refine lv_iconst (v := 3) hx hb d_X_isThread_5 (by decide) ?_
    refine lv_icmp_ge (tgt := 13) hx hb d_X_isThread_6 (by decide) (fun c2 => ?_) (fun c2 => ?_)
    · have hf := hf.trans (if_pos c2)
      refine lv_iconst (v := 0) hx hb d_X_isThread_13 (by decide) ?_
      exact cs_zret hC hw hr hlk (Or.inl rfl) (congrArg (fun z => (z, M)) hf) d_X_isThread_14
    · have hf := hf.trans (if_neg c2)
      refine lv_iconst (v := 1) hx hb d_X_isThread_9 (by decide) ?_
      refine lv_goto (tgt := 14) hx hb d_X_isThread_10 (by decide) ?_
      exact cs_zret hC hw hr hlk (Or.inr rfl) (congrArg (fun z => (z, M)) hf) d_X_isThread_14
theorem d_Sc_length_0 : decode prog_6_method_5_code 0 = .ok (.aload_n 0, 1) := by decide +kernel
theorem d_Sc_length_1 : decode prog_6_method_5_code 1 = .ok (.getfield 25, 3) := by decide +kernel
theorem d_Sc_length_4 : decode prog_6_method_5_code 4 = .ok (.ireturn, 1) := by decide +kernel
def f_Sc_length (M : cs_Mem) (j : Nat) : Int32 :=
  M j 5
set_option maxHeartbeats 4000000 in
set_option maxRecDepth 100000 in
theorem c_Sc_length (l : Launch) (D : va_G) (cA : Nat → ClassId) (ad : Nat → Nat) (M : cs_Mem) (j : Nat) (hj : cs_is 2 j) : cs_Ci l ⟨"ClassStarter$Script", "length", "()I"⟩ prog_6_method_5_code 1 (some .int) ({ frames := 0, cells := 0, slots := 0, locals := 0 }) D cA ad M [.ref (ad j)] ((f_Sc_length M j, M)) := by
  refine cs_entry (by decide) (Nat.le_of_ble_eq_true rfl) (fun p e s m below meth c A ls hC hr hlk _ hw hl => ?_)
  have hx := hC.1
  have hb := hC.2.1
  have hl : lv_has ls 1 [(0, .ref (ad j))] := hl
  generalize hF : f_Sc_length M j = F
  have hf := hF.symm
  unfold f_Sc_length at hf
  refine lv_aload_n hx hb d_Sc_length_0 rfl (lv_at hl 0 rfl) ?_
  refine gf_Sc_length hC hw hj wd_79 d_Sc_length_1 ?_
  exact cs_iret hC hw hr hlk (congrArg (fun z => (z, M)) hf) d_Sc_length_4
theorem d_Sc_actionAt_0 : decode prog_6_method_6_code 0 = .ok (.iload_n 1, 1) := by decide +kernel
theorem d_Sc_actionAt_1 : decode prog_6_method_6_code 1 = .ok (.aload_n 0, 1) := by decide +kernel
theorem d_Sc_actionAt_2 : decode prog_6_method_6_code 2 = .ok (.getfield 25, 3) := by decide +kernel
theorem d_Sc_actionAt_5 : decode prog_6_method_6_code 5 = .ok (.if_icmp .ge 12, 3) := by decide +kernel
theorem d_Sc_actionAt_8 : decode prog_6_method_6_code 8 = .ok (.aload_n 0, 1) := by decide +kernel
theorem d_Sc_actionAt_9 : decode prog_6_method_6_code 9 = .ok (.getfield 15, 3) := by decide +kernel
theorem d_Sc_actionAt_12 : decode prog_6_method_6_code 12 = .ok (.iload_n 1, 1) := by decide +kernel
theorem d_Sc_actionAt_13 : decode prog_6_method_6_code 13 = .ok (.iaload, 1) := by decide +kernel
theorem d_Sc_actionAt_14 : decode prog_6_method_6_code 14 = .ok (.goto 4, 3) := by decide +kernel
theorem d_Sc_actionAt_17 : decode prog_6_method_6_code 17 = .ok (.iconst (-1), 1) := by decide +kernel
theorem d_Sc_actionAt_18 : decode prog_6_method_6_code 18 = .ok (.ireturn, 1) := by decide +kernel
def f_Sc_actionAt (M : cs_Mem) (j : Nat) (x1 : Int32) : Int32 :=
  if (M j 5) ≤ x1 then
    (-1)
  else
    M (j + 1) x1.toNatClampNeg
def pre_Sc_actionAt (M : cs_Mem) (j : Nat) (x1 : Int32) : Prop :=
  ((M j 5) ≤ x1 →
    True
  ) ∧ (¬ ((M j 5) ≤ x1) →
    (vp_in x1 (cs_ln M (j + 1))) ∧
    True
  )
set_option maxHeartbeats 4000000 in
set_option maxRecDepth 100000 in
theorem c_Sc_actionAt (l : Launch) (D : va_G) (cA : Nat → ClassId) (ad : Nat → Nat) (M : cs_Mem) (j : Nat) (hj : cs_is 2 j) (x1 : Int32) (hp : pre_Sc_actionAt M j x1) : cs_Ci l ⟨"ClassStarter$Script", "actionAt", "(I)I"⟩ prog_6_method_6_code 2 (some .int) ({ frames := 0, cells := 0, slots := 0, locals := 0 }) D cA ad M [.ref (ad j), .int x1] ((f_Sc_actionAt M j x1, M)) := by
  refine cs_entry (by decide) (Nat.le_of_ble_eq_true rfl) (fun p e s m below meth c A ls hC hr hlk _ hw hl => ?_)
  have hx := hC.1
  have hb := hC.2.1
  have hl : lv_has ls 2 [(0, .ref (ad j)), (1, .int x1)] := hl
  generalize hF : f_Sc_actionAt M j x1 = F
  have hf := hF.symm
  unfold f_Sc_actionAt at hf
  unfold pre_Sc_actionAt at hp
  refine lv_iload_n hx hb d_Sc_actionAt_0 rfl (lv_at hl 1 rfl) ?_
  refine lv_aload_n hx hb d_Sc_actionAt_1 rfl (lv_at hl 0 rfl) ?_
  refine gf_Sc_length hC hw hj wd_79 d_Sc_actionAt_2 ?_
  refine lv_icmp_ge (tgt := 17) hx hb d_Sc_actionAt_5 (by decide) (fun c1 => ?_) (fun c1 => ?_)
  · have hp := hp.1 c1
    have hf := hf.trans (if_pos c1)
    refine lv_iconst (v := (-1)) hx hb d_Sc_actionAt_17 (by decide) ?_
    exact cs_iret hC hw hr hlk (congrArg (fun z => (z, M)) hf) d_Sc_actionAt_18
  · have hp := hp.2 c1
    have hf := hf.trans (if_neg c1)
    refine lv_aload_n hx hb d_Sc_actionAt_8 rfl (lv_at hl 0 rfl) ?_
    refine gf_Sc_actions hC hw hj wd_75 d_Sc_actionAt_9 ?_
    refine lv_iload_n hx hb d_Sc_actionAt_12 rfl (lv_at hl 1 rfl) ?_
    have o2 := hp.1
    have hp := hp.2
    refine cs_iald hC hw (is_Sc1 hj) o2 d_Sc_actionAt_13 ?_
    refine lv_goto (tgt := 18) hx hb d_Sc_actionAt_14 (by decide) ?_
    exact cs_iret hC hw hr hlk (congrArg (fun z => (z, M)) hf) d_Sc_actionAt_18
theorem d_Sc_firstOperandAt_0 : decode prog_6_method_7_code 0 = .ok (.aload_n 0, 1) := by decide +kernel
theorem d_Sc_firstOperandAt_1 : decode prog_6_method_7_code 1 = .ok (.getfield 19, 3) := by decide +kernel
theorem d_Sc_firstOperandAt_4 : decode prog_6_method_7_code 4 = .ok (.iload_n 1, 1) := by decide +kernel
theorem d_Sc_firstOperandAt_5 : decode prog_6_method_7_code 5 = .ok (.iaload, 1) := by decide +kernel
theorem d_Sc_firstOperandAt_6 : decode prog_6_method_7_code 6 = .ok (.ireturn, 1) := by decide +kernel
def f_Sc_firstOperandAt (M : cs_Mem) (j : Nat) (x1 : Int32) : Int32 :=
  M (j + 2) x1.toNatClampNeg
def pre_Sc_firstOperandAt (M : cs_Mem) (j : Nat) (x1 : Int32) : Prop :=
  (vp_in x1 (cs_ln M (j + 2))) ∧
  True
set_option maxHeartbeats 4000000 in
set_option maxRecDepth 100000 in
theorem c_Sc_firstOperandAt (l : Launch) (D : va_G) (cA : Nat → ClassId) (ad : Nat → Nat) (M : cs_Mem) (j : Nat) (hj : cs_is 2 j) (x1 : Int32) (hp : pre_Sc_firstOperandAt M j x1) : cs_Ci l ⟨"ClassStarter$Script", "firstOperandAt", "(I)I"⟩ prog_6_method_7_code 2 (some .int) ({ frames := 0, cells := 0, slots := 0, locals := 0 }) D cA ad M [.ref (ad j), .int x1] ((f_Sc_firstOperandAt M j x1, M)) := by
  refine cs_entry (by decide) (Nat.le_of_ble_eq_true rfl) (fun p e s m below meth c A ls hC hr hlk _ hw hl => ?_)
  have hx := hC.1
  have hb := hC.2.1
  have hl : lv_has ls 2 [(0, .ref (ad j)), (1, .int x1)] := hl
  generalize hF : f_Sc_firstOperandAt M j x1 = F
  have hf := hF.symm
  unfold f_Sc_firstOperandAt at hf
  unfold pre_Sc_firstOperandAt at hp
  refine lv_aload_n hx hb d_Sc_firstOperandAt_0 rfl (lv_at hl 0 rfl) ?_
  refine gf_Sc_firstOperands hC hw hj wd_76 d_Sc_firstOperandAt_1 ?_
  refine lv_iload_n hx hb d_Sc_firstOperandAt_4 rfl (lv_at hl 1 rfl) ?_
  have o1 := hp.1
  have hp := hp.2
  refine cs_iald hC hw (is_Sc2 hj) o1 d_Sc_firstOperandAt_5 ?_
  exact cs_iret hC hw hr hlk (congrArg (fun z => (z, M)) hf) d_Sc_firstOperandAt_6
theorem d_Sc_secondOperandAt_0 : decode prog_6_method_8_code 0 = .ok (.aload_n 0, 1) := by decide +kernel
theorem d_Sc_secondOperandAt_1 : decode prog_6_method_8_code 1 = .ok (.getfield 22, 3) := by decide +kernel
theorem d_Sc_secondOperandAt_4 : decode prog_6_method_8_code 4 = .ok (.iload_n 1, 1) := by decide +kernel
theorem d_Sc_secondOperandAt_5 : decode prog_6_method_8_code 5 = .ok (.iaload, 1) := by decide +kernel
theorem d_Sc_secondOperandAt_6 : decode prog_6_method_8_code 6 = .ok (.ireturn, 1) := by decide +kernel
def f_Sc_secondOperandAt (M : cs_Mem) (j : Nat) (x1 : Int32) : Int32 :=
  M (j + 3) x1.toNatClampNeg
def pre_Sc_secondOperandAt (M : cs_Mem) (j : Nat) (x1 : Int32) : Prop :=
  (vp_in x1 (cs_ln M (j + 3))) ∧
  True
set_option maxHeartbeats 4000000 in
set_option maxRecDepth 100000 in
theorem c_Sc_secondOperandAt (l : Launch) (D : va_G) (cA : Nat → ClassId) (ad : Nat → Nat) (M : cs_Mem) (j : Nat) (hj : cs_is 2 j) (x1 : Int32) (hp : pre_Sc_secondOperandAt M j x1) : cs_Ci l ⟨"ClassStarter$Script", "secondOperandAt", "(I)I"⟩ prog_6_method_8_code 2 (some .int) ({ frames := 0, cells := 0, slots := 0, locals := 0 }) D cA ad M [.ref (ad j), .int x1] ((f_Sc_secondOperandAt M j x1, M)) := by
  refine cs_entry (by decide) (Nat.le_of_ble_eq_true rfl) (fun p e s m below meth c A ls hC hr hlk _ hw hl => ?_)
  have hx := hC.1
  have hb := hC.2.1
  have hl : lv_has ls 2 [(0, .ref (ad j)), (1, .int x1)] := hl
  generalize hF : f_Sc_secondOperandAt M j x1 = F
  have hf := hF.symm
  unfold f_Sc_secondOperandAt at hf
  unfold pre_Sc_secondOperandAt at hp
  refine lv_aload_n hx hb d_Sc_secondOperandAt_0 rfl (lv_at hl 0 rfl) ?_
  refine gf_Sc_secondOperands hC hw hj wd_77 d_Sc_secondOperandAt_1 ?_
  refine lv_iload_n hx hb d_Sc_secondOperandAt_4 rfl (lv_at hl 1 rfl) ?_
  have o1 := hp.1
  have hp := hp.2
  refine cs_iald hC hw (is_Sc3 hj) o1 d_Sc_secondOperandAt_5 ?_
  exact cs_iret hC hw hr hlk (congrArg (fun z => (z, M)) hf) d_Sc_secondOperandAt_6
theorem d_Fa_isException_0 : decode prog_3_method_4_code 0 = .ok (.iload_n 0, 1) := by decide +kernel
theorem d_Fa_isException_1 : decode prog_3_method_4_code 1 = .ok (.iconst 1, 1) := by decide +kernel
theorem d_Fa_isException_2 : decode prog_3_method_4_code 2 = .ok (.if_icmp .lt 13, 3) := by decide +kernel
theorem d_Fa_isException_5 : decode prog_3_method_4_code 5 = .ok (.iload_n 0, 1) := by decide +kernel
theorem d_Fa_isException_6 : decode prog_3_method_4_code 6 = .ok (.bipush 11, 2) := by decide +kernel
theorem d_Fa_isException_8 : decode prog_3_method_4_code 8 = .ok (.if_icmp .ge 7, 3) := by decide +kernel
theorem d_Fa_isException_11 : decode prog_3_method_4_code 11 = .ok (.iconst 1, 1) := by decide +kernel
theorem d_Fa_isException_12 : decode prog_3_method_4_code 12 = .ok (.goto 4, 3) := by decide +kernel
theorem d_Fa_isException_15 : decode prog_3_method_4_code 15 = .ok (.iconst 0, 1) := by decide +kernel
theorem d_Fa_isException_16 : decode prog_3_method_4_code 16 = .ok (.ireturn, 1) := by decide +kernel
def f_Fa_isException (M : cs_Mem) (x0 : Int32) : Int32 :=
  if x0 < 1 then
    0
  else
    if 11 ≤ x0 then
      0
    else
      1
set_option maxHeartbeats 4000000 in
set_option maxRecDepth 100000 in
theorem c_Fa_isException (l : Launch) (D : va_G) (cA : Nat → ClassId) (ad : Nat → Nat) (M : cs_Mem) (x0 : Int32) : cs_Ci l ⟨"ClassStarter$Fault", "isException", "(I)Z"⟩ prog_3_method_4_code 1 (some .boolean) ({ frames := 0, cells := 0, slots := 0, locals := 0 }) D cA ad M [.int x0] ((f_Fa_isException M x0, M)) := by
  refine cs_entry (by decide) (Nat.le_of_ble_eq_true rfl) (fun p e s m below meth c A ls hC hr hlk _ hw hl => ?_)
  have hx := hC.1
  have hb := hC.2.1
  have hl : lv_has ls 1 [(0, .int x0)] := hl
  generalize hF : f_Fa_isException M x0 = F
  have hf := hF.symm
  unfold f_Fa_isException at hf
  refine lv_iload_n hx hb d_Fa_isException_0 rfl (lv_at hl 0 rfl) ?_
  refine lv_iconst (v := 1) hx hb d_Fa_isException_1 (by decide) ?_
  refine lv_icmp_lt (tgt := 15) hx hb d_Fa_isException_2 (by decide) (fun c1 => ?_) (fun c1 => ?_)
  · have hf := hf.trans (if_pos c1)
    refine lv_iconst (v := 0) hx hb d_Fa_isException_15 (by decide) ?_
    exact cs_zret hC hw hr hlk (Or.inl rfl) (congrArg (fun z => (z, M)) hf) d_Fa_isException_16
  · have hf := hf.trans (if_neg c1)
    refine lv_iload_n hx hb d_Fa_isException_5 rfl (lv_at hl 0 rfl) ?_
    refine lv_bipush (v := 11) hx hb d_Fa_isException_6 (by decide) ?_
    refine lv_icmp_ge (tgt := 15) hx hb d_Fa_isException_8 (by decide) (fun c2 => ?_) (fun c2 => ?_)
    · have hf := hf.trans (if_pos c2)
      refine lv_iconst (v := 0) hx hb d_Fa_isException_15 (by decide) ?_
      exact cs_zret hC hw hr hlk (Or.inl rfl) (congrArg (fun z => (z, M)) hf) d_Fa_isException_16
    · have hf := hf.trans (if_neg c2)
      refine lv_iconst (v := 1) hx hb d_Fa_isException_11 (by decide) ?_
      refine lv_goto (tgt := 16) hx hb d_Fa_isException_12 (by decide) ?_
      exact cs_zret hC hw hr hlk (Or.inr rfl) (congrArg (fun z => (z, M)) hf) d_Fa_isException_16
theorem d_Fa_outside_0 : decode prog_3_method_2_code 0 = .ok (.iload_n 0, 1) := by decide +kernel
theorem d_Fa_outside_1 : decode prog_3_method_2_code 1 = .ok (.invokestatic 9, 3) := by decide +kernel
theorem d_Fa_outside_4 : decode prog_3_method_2_code 4 = .ok (.ifCond .eq 12, 3) := by decide +kernel
theorem d_Fa_outside_7 : decode prog_3_method_2_code 7 = .ok (.bipush 31, 2) := by decide +kernel
theorem d_Fa_outside_9 : decode prog_3_method_2_code 9 = .ok (.iload_n 0, 1) := by decide +kernel
theorem d_Fa_outside_10 : decode prog_3_method_2_code 10 = .ok (.iadd, 1) := by decide +kernel
theorem d_Fa_outside_11 : decode prog_3_method_2_code 11 = .ok (.iconst 1, 1) := by decide +kernel
theorem d_Fa_outside_12 : decode prog_3_method_2_code 12 = .ok (.isub, 1) := by decide +kernel
theorem d_Fa_outside_13 : decode prog_3_method_2_code 13 = .ok (.goto 4, 3) := by decide +kernel
theorem d_Fa_outside_16 : decode prog_3_method_2_code 16 = .ok (.iload_n 0, 1) := by decide +kernel
theorem d_Fa_outside_17 : decode prog_3_method_2_code 17 = .ok (.ireturn, 1) := by decide +kernel
def f_Fa_outside (M : cs_Mem) (x0 : Int32) : Int32 :=
  cs_bd (f_Fa_isException M x0) fun (r1 : Int32) =>
  if r1 = 0 then
    x0
  else
    (31 + x0) - 1
set_option maxHeartbeats 4000000 in
set_option maxRecDepth 100000 in
theorem c_Fa_outside (l : Launch) (D : va_G) (cA : Nat → ClassId) (ad : Nat → Nat) (M : cs_Mem) (x0 : Int32) : cs_Ci l ⟨"ClassStarter$Fault", "outside", "(I)I"⟩ prog_3_method_2_code 1 (some .int) ({ frames := 1, cells := 0, slots := 0, locals := 20 }) D cA ad M [.int x0] ((f_Fa_outside M x0, M)) := by
  refine cs_entry (by decide) (Nat.le_of_ble_eq_true rfl) (fun p e s m below meth c A ls hC hr hlk _ hw hl => ?_)
  have hx := hC.1
  have hb := hC.2.1
  have hl : lv_has ls 1 [(0, .int x0)] := hl
  generalize hF : f_Fa_outside M x0 = F
  have hf := hF.symm
  unfold f_Fa_outside at hf
  refine lv_iload_n hx hb d_Fa_outside_0 rfl (lv_at hl 0 rfl) ?_
  refine cs_ret_p hC hw (cs_runS (As := [.int x0]) (rest := []) hC hw (c_Fa_isException l D cA ad M x0 _) rfl rfl cw_Fa_9 ⟨Nat.le_of_ble_eq_true rfl, Nat.le_of_ble_eq_true rfl⟩ hl.1 rfl rfl (Nat.le_of_ble_eq_true rfl) d_Fa_outside_1 ⟨Nat.zero_le _, Nat.zero_le _⟩) (fun r1 H locs er1 hw => ?_)
  have hf := cs_bdE er1 hf
  refine lv_if_eq (tgt := 16) hx hb d_Fa_outside_4 (by decide) (fun c2 => ?_) (fun c2 => ?_)
  · have hf := hf.trans (if_pos c2)
    refine lv_iload_n hx hb d_Fa_outside_16 rfl (lv_at hl 0 rfl) ?_
    exact cs_iret hC hw hr hlk (congrArg (fun z => (z, M)) hf) d_Fa_outside_17
  · have hf := hf.trans (if_neg c2)
    refine lv_bipush (v := 31) hx hb d_Fa_outside_7 (by decide) ?_
    refine lv_iload_n hx hb d_Fa_outside_9 rfl (lv_at hl 0 rfl) ?_
    refine lv_iadd hx hb d_Fa_outside_10 ?_
    refine lv_iconst (v := 1) hx hb d_Fa_outside_11 (by decide) ?_
    refine lv_isub hx hb d_Fa_outside_12 ?_
    refine lv_goto (tgt := 17) hx hb d_Fa_outside_13 (by decide) ?_
    exact cs_iret hC hw hr hlk (congrArg (fun z => (z, M)) hf) d_Fa_outside_17
theorem d_Sc_isGuarded_0 : decode prog_6_method_9_code 0 = .ok (.iload_n 1, 1) := by decide +kernel
theorem d_Sc_isGuarded_1 : decode prog_6_method_9_code 1 = .ok (.ifCond .le 20, 3) := by decide +kernel
theorem d_Sc_isGuarded_4 : decode prog_6_method_9_code 4 = .ok (.aload_n 0, 1) := by decide +kernel
theorem d_Sc_isGuarded_5 : decode prog_6_method_9_code 5 = .ok (.getfield 15, 3) := by decide +kernel
theorem d_Sc_isGuarded_8 : decode prog_6_method_9_code 8 = .ok (.iload_n 1, 1) := by decide +kernel
theorem d_Sc_isGuarded_9 : decode prog_6_method_9_code 9 = .ok (.iconst 1, 1) := by decide +kernel
theorem d_Sc_isGuarded_10 : decode prog_6_method_9_code 10 = .ok (.isub, 1) := by decide +kernel
theorem d_Sc_isGuarded_11 : decode prog_6_method_9_code 11 = .ok (.iaload, 1) := by decide +kernel
theorem d_Sc_isGuarded_12 : decode prog_6_method_9_code 12 = .ok (.bipush 6, 2) := by decide +kernel
theorem d_Sc_isGuarded_14 : decode prog_6_method_9_code 14 = .ok (.if_icmp .ne 7, 3) := by decide +kernel
theorem d_Sc_isGuarded_17 : decode prog_6_method_9_code 17 = .ok (.iconst 1, 1) := by decide +kernel
theorem d_Sc_isGuarded_18 : decode prog_6_method_9_code 18 = .ok (.goto 4, 3) := by decide +kernel
theorem d_Sc_isGuarded_21 : decode prog_6_method_9_code 21 = .ok (.iconst 0, 1) := by decide +kernel
theorem d_Sc_isGuarded_22 : decode prog_6_method_9_code 22 = .ok (.ireturn, 1) := by decide +kernel
def f_Sc_isGuarded (M : cs_Mem) (j : Nat) (x1 : Int32) : Int32 :=
  if x1 ≤ 0 then
    0
  else
    if (M (j + 1) (x1 - 1).toNatClampNeg) = 6 then
      1
    else
      0
def pre_Sc_isGuarded (M : cs_Mem) (j : Nat) (x1 : Int32) : Prop :=
  (x1 ≤ 0 →
    True
  ) ∧ (¬ (x1 ≤ 0) →
    (vp_in (x1 - 1) (cs_ln M (j + 1))) ∧
    True
  )
set_option maxHeartbeats 4000000 in
set_option maxRecDepth 100000 in
theorem c_Sc_isGuarded (l : Launch) (D : va_G) (cA : Nat → ClassId) (ad : Nat → Nat) (M : cs_Mem) (j : Nat) (hj : cs_is 2 j) (x1 : Int32) (hp : pre_Sc_isGuarded M j x1) : cs_Ci l ⟨"ClassStarter$Script", "isGuarded", "(I)Z"⟩ prog_6_method_9_code 2 (some .boolean) ({ frames := 0, cells := 0, slots := 0, locals := 0 }) D cA ad M [.ref (ad j), .int x1] ((f_Sc_isGuarded M j x1, M)) := by
  refine cs_entry (by decide) (Nat.le_of_ble_eq_true rfl) (fun p e s m below meth c A ls hC hr hlk _ hw hl => ?_)
  have hx := hC.1
  have hb := hC.2.1
  have hl : lv_has ls 2 [(0, .ref (ad j)), (1, .int x1)] := hl
  generalize hF : f_Sc_isGuarded M j x1 = F
  have hf := hF.symm
  unfold f_Sc_isGuarded at hf
  unfold pre_Sc_isGuarded at hp
  refine lv_iload_n hx hb d_Sc_isGuarded_0 rfl (lv_at hl 1 rfl) ?_
  refine lv_if_le (tgt := 21) hx hb d_Sc_isGuarded_1 (by decide) (fun c1 => ?_) (fun c1 => ?_)
  · have hp := hp.1 c1
    have hf := hf.trans (if_pos c1)
    refine lv_iconst (v := 0) hx hb d_Sc_isGuarded_21 (by decide) ?_
    exact cs_zret hC hw hr hlk (Or.inl rfl) (congrArg (fun z => (z, M)) hf) d_Sc_isGuarded_22
  · have hp := hp.2 c1
    have hf := hf.trans (if_neg c1)
    refine lv_aload_n hx hb d_Sc_isGuarded_4 rfl (lv_at hl 0 rfl) ?_
    refine gf_Sc_actions hC hw hj wd_75 d_Sc_isGuarded_5 ?_
    refine lv_iload_n hx hb d_Sc_isGuarded_8 rfl (lv_at hl 1 rfl) ?_
    refine lv_iconst (v := 1) hx hb d_Sc_isGuarded_9 (by decide) ?_
    refine lv_isub hx hb d_Sc_isGuarded_10 ?_
    have o2 := hp.1
    have hp := hp.2
    refine cs_iald hC hw (is_Sc1 hj) o2 d_Sc_isGuarded_11 ?_
    refine lv_bipush (v := 6) hx hb d_Sc_isGuarded_12 (by decide) ?_
    refine lv_icmp_ne (tgt := 21) hx hb d_Sc_isGuarded_14 (by decide) (fun c3 => ?_) (fun c3 => ?_)
    · have hf := hf.trans (if_neg c3)
      refine lv_iconst (v := 0) hx hb d_Sc_isGuarded_21 (by decide) ?_
      exact cs_zret hC hw hr hlk (Or.inl rfl) (congrArg (fun z => (z, M)) hf) d_Sc_isGuarded_22
    · have hf := hf.trans (if_pos c3)
      refine lv_iconst (v := 1) hx hb d_Sc_isGuarded_17 (by decide) ?_
      refine lv_goto (tgt := 22) hx hb d_Sc_isGuarded_18 (by decide) ?_
      exact cs_zret hC hw hr hlk (Or.inr rfl) (congrArg (fun z => (z, M)) hf) d_Sc_isGuarded_22
theorem d_Fa_number_0 : decode prog_3_method_3_code 0 = .ok (.iload_n 0, 1) := by decide +kernel
theorem d_Fa_number_1 : decode prog_3_method_3_code 1 = .ok (.bipush 31, 2) := by decide +kernel
theorem d_Fa_number_3 : decode prog_3_method_3_code 3 = .ok (.if_icmp .lt 11, 3) := by decide +kernel
theorem d_Fa_number_6 : decode prog_3_method_3_code 6 = .ok (.bipush 100, 2) := by decide +kernel
theorem d_Fa_number_8 : decode prog_3_method_3_code 8 = .ok (.iload_n 0, 1) := by decide +kernel
theorem d_Fa_number_9 : decode prog_3_method_3_code 9 = .ok (.iadd, 1) := by decide +kernel
theorem d_Fa_number_10 : decode prog_3_method_3_code 10 = .ok (.bipush 31, 2) := by decide +kernel
theorem d_Fa_number_12 : decode prog_3_method_3_code 12 = .ok (.isub, 1) := by decide +kernel
theorem d_Fa_number_13 : decode prog_3_method_3_code 13 = .ok (.ireturn, 1) := by decide +kernel
theorem d_Fa_number_14 : decode prog_3_method_3_code 14 = .ok (.iload_n 0, 1) := by decide +kernel
theorem d_Fa_number_15 : decode prog_3_method_3_code 15 = .ok (.bipush 21, 2) := by decide +kernel
theorem d_Fa_number_17 : decode prog_3_method_3_code 17 = .ok (.if_icmp .ne 5, 3) := by decide +kernel
theorem d_Fa_number_20 : decode prog_3_method_3_code 20 = .ok (.iconst (-1), 1) := by decide +kernel
theorem d_Fa_number_21 : decode prog_3_method_3_code 21 = .ok (.ireturn, 1) := by decide +kernel
theorem d_Fa_number_22 : decode prog_3_method_3_code 22 = .ok (.iload_n 0, 1) := by decide +kernel
theorem d_Fa_number_23 : decode prog_3_method_3_code 23 = .ok (.bipush 22, 2) := by decide +kernel
theorem d_Fa_number_25 : decode prog_3_method_3_code 25 = .ok (.if_icmp .ne 6, 3) := by decide +kernel
theorem d_Fa_number_28 : decode prog_3_method_3_code 28 = .ok (.bipush (-2), 2) := by decide +kernel
theorem d_Fa_number_30 : decode prog_3_method_3_code 30 = .ok (.ireturn, 1) := by decide +kernel
theorem d_Fa_number_31 : decode prog_3_method_3_code 31 = .ok (.iload_n 0, 1) := by decide +kernel
theorem d_Fa_number_32 : decode prog_3_method_3_code 32 = .ok (.invokestatic 9, 3) := by decide +kernel
theorem d_Fa_number_35 : decode prog_3_method_3_code 35 = .ok (.ifCond .eq 9, 3) := by decide +kernel
theorem d_Fa_number_38 : decode prog_3_method_3_code 38 = .ok (.iload_n 0, 1) := by decide +kernel
theorem d_Fa_number_39 : decode prog_3_method_3_code 39 = .ok (.iconst 1, 1) := by decide +kernel
theorem d_Fa_number_40 : decode prog_3_method_3_code 40 = .ok (.isub, 1) := by decide +kernel
theorem d_Fa_number_41 : decode prog_3_method_3_code 41 = .ok (.goto 7, 3) := by decide +kernel
theorem d_Fa_number_44 : decode prog_3_method_3_code 44 = .ok (.iload_n 0, 1) := by decide +kernel
theorem d_Fa_number_45 : decode prog_3_method_3_code 45 = .ok (.bipush 11, 2) := by decide +kernel
theorem d_Fa_number_47 : decode prog_3_method_3_code 47 = .ok (.isub, 1) := by decide +kernel
theorem d_Fa_number_48 : decode prog_3_method_3_code 48 = .ok (.ireturn, 1) := by decide +kernel
def f_Fa_number (M : cs_Mem) (x0 : Int32) : Int32 :=
  if x0 < 31 then
    if x0 = 21 then
      (-1)
    else
      if x0 = 22 then
        (-2)
      else
        cs_bd (f_Fa_isException M x0) fun (r4 : Int32) =>
        if r4 = 0 then
          x0 - 11
        else
          x0 - 1
  else
    (100 + x0) - 31
set_option maxHeartbeats 4000000 in
set_option maxRecDepth 100000 in
theorem c_Fa_number (l : Launch) (D : va_G) (cA : Nat → ClassId) (ad : Nat → Nat) (M : cs_Mem) (x0 : Int32) : cs_Ci l ⟨"ClassStarter$Fault", "number", "(I)I"⟩ prog_3_method_3_code 1 (some .int) ({ frames := 1, cells := 0, slots := 0, locals := 20 }) D cA ad M [.int x0] ((f_Fa_number M x0, M)) := by
  refine cs_entry (by decide) (Nat.le_of_ble_eq_true rfl) (fun p e s m below meth c A ls hC hr hlk _ hw hl => ?_)
  have hx := hC.1
  have hb := hC.2.1
  have hl : lv_has ls 1 [(0, .int x0)] := hl
  generalize hF : f_Fa_number M x0 = F
  have hf := hF.symm
  unfold f_Fa_number at hf
  refine lv_iload_n hx hb d_Fa_number_0 rfl (lv_at hl 0 rfl) ?_
  refine lv_bipush (v := 31) hx hb d_Fa_number_1 (by decide) ?_
  refine lv_icmp_lt (tgt := 14) hx hb d_Fa_number_3 (by decide) (fun c1 => ?_) (fun c1 => ?_)
  · have hf := hf.trans (if_pos c1)
    refine lv_iload_n hx hb d_Fa_number_14 rfl (lv_at hl 0 rfl) ?_
    refine lv_bipush (v := 21) hx hb d_Fa_number_15 (by decide) ?_
    refine lv_icmp_ne (tgt := 22) hx hb d_Fa_number_17 (by decide) (fun c2 => ?_) (fun c2 => ?_)
    · have hf := hf.trans (if_neg c2)
      refine lv_iload_n hx hb d_Fa_number_22 rfl (lv_at hl 0 rfl) ?_
      refine lv_bipush (v := 22) hx hb d_Fa_number_23 (by decide) ?_
      refine lv_icmp_ne (tgt := 31) hx hb d_Fa_number_25 (by decide) (fun c3 => ?_) (fun c3 => ?_)
      · have hf := hf.trans (if_neg c3)
        refine lv_iload_n hx hb d_Fa_number_31 rfl (lv_at hl 0 rfl) ?_
        refine cs_ret_p hC hw (cs_runS (As := [.int x0]) (rest := []) hC hw (c_Fa_isException l D cA ad M x0 _) rfl rfl cw_Fa_9 ⟨Nat.le_of_ble_eq_true rfl, Nat.le_of_ble_eq_true rfl⟩ hl.1 rfl rfl (Nat.le_of_ble_eq_true rfl) d_Fa_number_32 ⟨Nat.zero_le _, Nat.zero_le _⟩) (fun r4 H locs er4 hw => ?_)
        have hf := cs_bdE er4 hf
        refine lv_if_eq (tgt := 44) hx hb d_Fa_number_35 (by decide) (fun c5 => ?_) (fun c5 => ?_)
        · have hf := hf.trans (if_pos c5)
          refine lv_iload_n hx hb d_Fa_number_44 rfl (lv_at hl 0 rfl) ?_
          refine lv_bipush (v := 11) hx hb d_Fa_number_45 (by decide) ?_
          refine lv_isub hx hb d_Fa_number_47 ?_
          exact cs_iret hC hw hr hlk (congrArg (fun z => (z, M)) hf) d_Fa_number_48
        · have hf := hf.trans (if_neg c5)
          refine lv_iload_n hx hb d_Fa_number_38 rfl (lv_at hl 0 rfl) ?_
          refine lv_iconst (v := 1) hx hb d_Fa_number_39 (by decide) ?_
          refine lv_isub hx hb d_Fa_number_40 ?_
          refine lv_goto (tgt := 48) hx hb d_Fa_number_41 (by decide) ?_
          exact cs_iret hC hw hr hlk (congrArg (fun z => (z, M)) hf) d_Fa_number_48
      · have hf := hf.trans (if_pos c3)
        refine lv_bipush (v := (-2)) hx hb d_Fa_number_28 (by decide) ?_
        exact cs_iret hC hw hr hlk (congrArg (fun z => (z, M)) hf) d_Fa_number_30
    · have hf := hf.trans (if_pos c2)
      refine lv_iconst (v := (-1)) hx hb d_Fa_number_20 (by decide) ?_
      exact cs_iret hC hw hr hlk (congrArg (fun z => (z, M)) hf) d_Fa_number_21
  · have hf := hf.trans (if_neg c1)
    refine lv_bipush (v := 100) hx hb d_Fa_number_6 (by decide) ?_
    refine lv_iload_n hx hb d_Fa_number_8 rfl (lv_at hl 0 rfl) ?_
    refine lv_iadd hx hb d_Fa_number_9 ?_
    refine lv_bipush (v := 31) hx hb d_Fa_number_10 (by decide) ?_
    refine lv_isub hx hb d_Fa_number_12 ?_
    exact cs_iret hC hw hr hlk (congrArg (fun z => (z, M)) hf) d_Fa_number_13
